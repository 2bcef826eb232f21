/-! WALKS (X 3): each method comes back with what its plain function says -/
def rm_X2_swapOf : Room := { frames := 4, cells := 0, slots := 0, locals := 87 }
set_option maxRecDepth 100000 in
set_option maxHeartbeats 4000000 in
theorem l_X2_swapOf_L1 {G : GT} {p : Program} {e : Env} {s : State} {m : MethodId} {args : Array Value} {below : List Frame} {meth : Method} {c : Code} {Q : State → Prop} (C : CT G p s m meth c args cX2_swapOf 5 RX2) (hr : meth.sig.returnType = (some .int)) (s0 : ST) (v1 : Int32) (v2 : Int32) (v3 : Int32) : ∀ (k : Nat) (v4 : Int32) (e1 : (Int32) ⊕ (Unit)), X2_swapOf_L1 s0 v1 v2 v3 k v4 = some e1 → (∀ rv, e1 = Sum.inl rv → Q = QR G below args s (some (.int rv)) (wX G s0)) → (∀ ex, e1 = Sum.inr ex → Kn G p e rm_X2_swapOf s m args below meth c Q 5 44 [] (wX G s0)) → Kn G p e rm_X2_swapOf s m args below meth c Q 5 3 [(0, .ref (gad G 9)), (1, .int v1), (2, .int v2), (3, .int v3), (4, .int v4)] (wX G s0) := by
  have hx := C.1
  have hb := C.2.1
  intro k
  induction k with
  | zero =>
    intro v4 e1 h
    exact nso h
  | succ k ih =>
    intro v4 e1 h hret hk H locs ls B hl
    have h : X2_swapOf_L1_b s0 v1 v2 v3 (X2_swapOf_L1 s0 v1 v2 v3 k) v4 = some e1 := h
    unfold X2_swapOf_L1_b at h
    refine lv_iload hx hb dX2_swapOf_3 (lv_at hl 4 rfl) ?_
    refine lv_aload_n hx hb dX2_swapOf_5 rfl (lv_at hl 0 rfl) ?_
    refine r_get C B fo_X2_28 (cX_9 G s0) rfl dX2_swapOf_6 ?_
    refine lv_icmp_ge (tgt := 44) hx hb dX2_swapOf_9 (by decide) (fun q1 => ?_) (fun q1 => ?_)
    · have h := ip h q1
      obtain rfl := ret1 h
      exact hk _ rfl H locs ls B (lv_sub hl [] rfl)
    · have h := ig h q1
      refine lv_iload_n hx hb dX2_swapOf_12 rfl (lv_at hl 3 rfl) ?_
      refine lv_iload hx hb dX2_swapOf_13 (lv_at hl 4 rfl) ?_
      obtain ⟨r2, q3, h⟩ := bd_o h
      refine r_callSNi (rest := []) C B.2.2 hl (c_X6_has G v3 v4 r2 q3) cs_X2_53 rfl rfl (Nat.le_of_ble_eq_true rfl) ⟨rfl, rfl, Nat.le_of_ble_eq_true rfl, Nat.le_of_ble_eq_true rfl⟩ dX2_swapOf_15 ?_
      refine lv_if_eq (tgt := 38) hx hb dX2_swapOf_18 (by decide) (fun q4 => ?_) (fun q4 => ?_)
      · have h := ip h q4
        obtain ⟨v4_5, q6, h⟩ := nm_o h
        refine lv_iinc (v := v4_5) (lv' := [(4, .int v4_5), (0, .ref (gad G 9)), (1, .int v1), (2, .int v2), (3, .int v3)]) hx hb dX2_swapOf_38 hl (k := 4) rfl q6.symm (by decide) rfl (fun ls hl => ?_)
        refine lv_goto (tgt := 3) hx hb dX2_swapOf_41 (by decide) ?_
        exact ih v4_5 e1 h hret hk H locs ls B (lv_sub hl [1, 2, 3, 4, 0] rfl)
      · have h := ig h q4
        refine lv_aload_n hx hb dX2_swapOf_21 rfl (lv_at hl 0 rfl) ?_
        refine lv_iload_n hx hb dX2_swapOf_22 rfl (lv_at hl 1 rfl) ?_
        refine lv_iload_n hx hb dX2_swapOf_23 rfl (lv_at hl 2 rfl) ?_
        refine lv_iconst (v := (1 : Int32)) hx hb dX2_swapOf_24 rfl ?_
        refine lv_iload hx hb dX2_swapOf_25 (lv_at hl 4 rfl) ?_
        refine lv_ishl hx hb dX2_swapOf_27 ?_
        refine lv_ior hx hb dX2_swapOf_28 ?_
        obtain ⟨r8, q7, h⟩ := bd_o h
        refine r_callVi (rest := []) C B hl (c_X2_isBase G s0 v1 (v2 ||| ((1 : Int32) <<< (v4 &&& 31))) r8 q7) cs_X2_100 (cX_9 G s0) rfl rfl rfl (Nat.le_of_ble_eq_true rfl) ⟨rfl, rfl, Nat.le_of_ble_eq_true rfl, Nat.le_of_ble_eq_true rfl⟩ dX2_swapOf_29 (fun H locs B => ?_)
        refine lv_if_eq (tgt := 38) hx hb dX2_swapOf_32 (by decide) (fun q9 => ?_) (fun q9 => ?_)
        · have h := ip h q9
          obtain ⟨v4_10, q11, h⟩ := nm_o h
          refine lv_iinc (v := v4_10) (lv' := [(4, .int v4_10), (0, .ref (gad G 9)), (1, .int v1), (2, .int v2), (3, .int v3)]) hx hb dX2_swapOf_38 hl (k := 4) rfl q11.symm (by decide) rfl (fun ls hl => ?_)
          refine lv_goto (tgt := 3) hx hb dX2_swapOf_41 (by decide) ?_
          exact ih v4_10 e1 h hret hk H locs ls B (lv_sub hl [1, 2, 3, 4, 0] rfl)
        · have h := ig h q9
          refine lv_iload hx hb dX2_swapOf_35 (lv_at hl 4 rfl) ?_
          obtain rfl := ret1 h
          rw [hret _ rfl]
          exact r_iret C B hr rfl dX2_swapOf_37
set_option maxRecDepth 100000 in
set_option maxHeartbeats 4000000 in
theorem c_X2_swapOf (G : GT) (n : Nat) (s0 : ST) (v1 : Int32) (v2 : Int32) (v3 : Int32) (r : Int32) (h : X2_swapOf n s0 v1 v2 v3 = some r) : Con G yX2_swapOf cX2_swapOf 5 (some .int) rm_X2_swapOf [.ref (gad G 9), .int v1, .int v2, .int v3] (wX G s0) (some (.int r)) (wX G s0) := by
  unfold X2_swapOf at h
  refine con_of (by decide +kernel) (Nat.le_of_ble_eq_true rfl) (fun {p e s m below meth c} C hr {H locs ls} B hl => ?_)
  have hx := C.1
  have hb := C.2.1
  have hl : lv_has ls 5 [(0, .ref (gad G 9)), (1, .int v1), (2, .int v2), (3, .int v3)] := hl
  refine lv_iconst (v := (0 : Int32)) hx hb dX2_swapOf_0 rfl ?_
  refine lv_istore (lv' := [(4, .int (0 : Int32)), (0, .ref (gad G 9)), (1, .int v1), (2, .int v2), (3, .int v3)]) hx hb dX2_swapOf_1 hl (by decide) rfl (fun ls hl => ?_)
  obtain ⟨e12, q13, h⟩ := bd_o h
  refine l_X2_swapOf_L1 C hr s0 v1 v2 v3 n (0 : Int32) e12 q13 (fun rv q => by have h := sm_l h q; cases h; rfl) (fun e14 q15 => ?_) H locs ls B (lv_sub hl [1, 2, 3, 4, 0] rfl)
  have h := sm_r h q15
  intro H locs ls B hl
  refine lv_bipush (v := (-5 : Int32)) hx hb dX2_swapOf_44 rfl ?_
  obtain rfl := ret1 h
  exact r_iret C B hr rfl dX2_swapOf_46
def rm_X6_swap : Room := { frames := 5, cells := 0, slots := 0, locals := 111 }
set_option maxRecDepth 100000 in
set_option maxHeartbeats 4000000 in
theorem c_X6_swap (G : GT) (n : Nat) (s0 : ST) (v1 : Int32) (v2 : Int32) (v3 : Int32) (v4 : Int32) (r : Int32) (s' : ST) (h : X6_swap n s0 v1 v2 v3 v4 = some (r, s')) : Con G yX6_swap cX6_swap 6 (some .int) rm_X6_swap [.ref (gad G 0), .int v1, .int v2, .int v3, .int v4] (wX G s0) (some (.int r)) (wX G s') := by
  unfold X6_swap at h
  refine con_of (by decide +kernel) (Nat.le_of_ble_eq_true rfl) (fun {p e s m below meth c} C hr {H locs ls} B hl => ?_)
  have hx := C.1
  have hb := C.2.1
  have hl : lv_has ls 6 [(0, .ref (gad G 0)), (1, .int v1), (2, .int v2), (3, .int v3), (4, .int v4)] := hl
  refine lv_iload_n hx hb dX6_swap_0 rfl (lv_at hl 1 rfl) ?_
  obtain ⟨r1, q2, h⟩ := bd_o h
  refine r_callSi (rest := []) C B.2.2 hl (c_X6_isSide G v1 r1 q2) cs_X6_113 rfl rfl (Nat.le_of_ble_eq_true rfl) ⟨rfl, rfl, Nat.le_of_ble_eq_true rfl, Nat.le_of_ble_eq_true rfl⟩ dX6_swap_1 ?_
  refine lv_if_eq (tgt := 19) hx hb dX6_swap_4 (by decide) (fun q3 => ?_) (fun q3 => ?_)
  · have h := ip h q3
    refine lv_iconst (v := (-1 : Int32)) hx hb dX6_swap_19 rfl ?_
    obtain ⟨rfl, rfl⟩ := ret2 h
    exact r_iret C B hr rfl dX6_swap_20
  · have h := ig h q3
    refine lv_aload_n hx hb dX6_swap_7 rfl (lv_at hl 0 rfl) ?_
    refine r_get C B fo_X6_10 (cX_0 G s0) rfl dX6_swap_8 ?_
    refine lv_iload hx hb dX6_swap_11 (lv_at hl 4 rfl) ?_
    obtain ⟨r5, q4, h⟩ := bd_o h
    refine r_callVi (rest := []) C B hl (c_X4_isPost G s0 v4 r5 q4) cs_X6_68 (cX_1 G s0) rfl rfl rfl (Nat.le_of_ble_eq_true rfl) ⟨rfl, rfl, Nat.le_of_ble_eq_true rfl, Nat.le_of_ble_eq_true rfl⟩ dX6_swap_13 (fun H locs B => ?_)
    refine lv_if_ne (tgt := 21) hx hb dX6_swap_16 (by decide) (fun q6 => ?_) (fun q6 => ?_)
    · have h := ig h q6
      refine lv_aload_n hx hb dX6_swap_21 rfl (lv_at hl 0 rfl) ?_
      refine r_get C B fo_X6_10 (cX_0 G s0) rfl dX6_swap_22 ?_
      refine lv_iload_n hx hb dX6_swap_25 rfl (lv_at hl 2 rfl) ?_
      obtain ⟨r8, q7, h⟩ := bd_o h
      refine r_callVi (rest := []) C B hl (c_X4_isSet G s0 v2 r8 q7) cs_X6_79 (cX_1 G s0) rfl rfl rfl (Nat.le_of_ble_eq_true rfl) ⟨rfl, rfl, Nat.le_of_ble_eq_true rfl, Nat.le_of_ble_eq_true rfl⟩ dX6_swap_26 (fun H locs B => ?_)
      refine lv_if_eq (tgt := 43) hx hb dX6_swap_29 (by decide) (fun q9 => ?_) (fun q9 => ?_)
      · have h := ip h q9
        refine lv_bipush (v := (-2 : Int32)) hx hb dX6_swap_43 rfl ?_
        obtain ⟨rfl, rfl⟩ := ret2 h
        exact r_iret C B hr rfl dX6_swap_45
      · have h := ig h q9
        refine lv_aload_n hx hb dX6_swap_32 rfl (lv_at hl 0 rfl) ?_
        refine r_get C B fo_X6_10 (cX_0 G s0) rfl dX6_swap_33 ?_
        refine lv_iload_n hx hb dX6_swap_36 rfl (lv_at hl 3 rfl) ?_
        obtain ⟨r11, q10, h⟩ := bd_o h
        refine r_callVi (rest := []) C B hl (c_X4_isSet G s0 v3 r11 q10) cs_X6_79 (cX_1 G s0) rfl rfl rfl (Nat.le_of_ble_eq_true rfl) ⟨rfl, rfl, Nat.le_of_ble_eq_true rfl, Nat.le_of_ble_eq_true rfl⟩ dX6_swap_37 (fun H locs B => ?_)
        refine lv_if_ne (tgt := 46) hx hb dX6_swap_40 (by decide) (fun q12 => ?_) (fun q12 => ?_)
        · have h := ig h q12
          refine lv_aload_n hx hb dX6_swap_46 rfl (lv_at hl 0 rfl) ?_
          obtain ⟨s14, q13, h⟩ := bd_o h
          refine r_callVa (rest := []) C B hl (c_X6_freshRanks G n s0 s14 q13) cs_X6_116 (cX_0 G s0) rfl rfl rfl (Nat.le_of_ble_eq_true rfl) ⟨rfl, rfl, Nat.le_of_ble_eq_true rfl, Nat.le_of_ble_eq_true rfl⟩ dX6_swap_47 (fun H locs B => ?_)
          refine lv_astore (lv' := [(5, .ref (gad G 9)), (0, .ref (gad G 0)), (1, .int v1), (2, .int v2), (3, .int v3), (4, .int v4)]) hx hb dX6_swap_50 hl (by decide) rfl (fun ls hl => ?_)
          refine lv_aload hx hb dX6_swap_52 (lv_at hl 0 rfl) ?_
          refine lv_iload_n hx hb dX6_swap_54 rfl (lv_at hl 2 rfl) ?_
          refine lv_iload_n hx hb dX6_swap_55 rfl (lv_at hl 3 rfl) ?_
          obtain ⟨r16, q15, h⟩ := bd_o h
          refine r_callVi (rest := []) C B hl (c_X2_isBase G s14 v1 v2 r16 q15) cs_X6_142 (cX_9 G s14) rfl rfl rfl (Nat.le_of_ble_eq_true rfl) ⟨rfl, rfl, Nat.le_of_ble_eq_true rfl, Nat.le_of_ble_eq_true rfl⟩ dX6_swap_56 (fun H locs B => ?_)
          refine lv_if_eq (tgt := 72) hx hb dX6_swap_59 (by decide) (fun q17 => ?_) (fun q17 => ?_)
          · have h := ip h q17
            refine lv_bipush (v := (-5 : Int32)) hx hb dX6_swap_72 rfl ?_
            obtain ⟨rfl, rfl⟩ := ret2 h
            exact r_iret C B hr rfl dX6_swap_74
          · have h := ig h q17
            refine lv_aload hx hb dX6_swap_62 (lv_at hl 0 rfl) ?_
            refine lv_iload_n hx hb dX6_swap_64 rfl (lv_at hl 2 rfl) ?_
            refine lv_iload_n hx hb dX6_swap_65 rfl (lv_at hl 4 rfl) ?_
            obtain ⟨r19, q18, h⟩ := bd_o h
            refine r_callVi (rest := []) C B hl (c_X2_isBase G s14 v1 v3 r19 q18) cs_X6_142 (cX_9 G s14) rfl rfl rfl (Nat.le_of_ble_eq_true rfl) ⟨rfl, rfl, Nat.le_of_ble_eq_true rfl, Nat.le_of_ble_eq_true rfl⟩ dX6_swap_66 (fun H locs B => ?_)
            refine lv_if_ne (tgt := 75) hx hb dX6_swap_69 (by decide) (fun q20 => ?_) (fun q20 => ?_)
            · have h := ig h q20
              refine lv_iload_n hx hb dX6_swap_75 rfl (lv_at hl 3 rfl) ?_
              refine lv_iload hx hb dX6_swap_76 (lv_at hl 5 rfl) ?_
              obtain ⟨r21, q22, h⟩ := bd_o h
              refine r_callSi (rest := []) C B.2.2 hl (c_X6_has G v2 v4 r21 q22) cs_X6_145 rfl rfl (Nat.le_of_ble_eq_true rfl) ⟨rfl, rfl, Nat.le_of_ble_eq_true rfl, Nat.le_of_ble_eq_true rfl⟩ dX6_swap_78 ?_
              refine lv_if_eq (tgt := 93) hx hb dX6_swap_81 (by decide) (fun q23 => ?_) (fun q23 => ?_)
              · have h := ip h q23
                refine lv_bipush (v := (-5 : Int32)) hx hb dX6_swap_93 rfl ?_
                obtain ⟨rfl, rfl⟩ := ret2 h
                exact r_iret C B hr rfl dX6_swap_95
              · have h := ig h q23
                refine lv_iload_n hx hb dX6_swap_84 rfl (lv_at hl 4 rfl) ?_
                refine lv_iload hx hb dX6_swap_85 (lv_at hl 5 rfl) ?_
                obtain ⟨r24, q25, h⟩ := bd_o h
                refine r_callSi (rest := []) C B.2.2 hl (c_X6_has G v3 v4 r24 q25) cs_X6_145 rfl rfl (Nat.le_of_ble_eq_true rfl) ⟨rfl, rfl, Nat.le_of_ble_eq_true rfl, Nat.le_of_ble_eq_true rfl⟩ dX6_swap_87 ?_
                refine lv_if_eq (tgt := 96) hx hb dX6_swap_90 (by decide) (fun q26 => ?_) (fun q26 => ?_)
                · have h := ip h q26
                  refine lv_aload hx hb dX6_swap_96 (lv_at hl 0 rfl) ?_
                  refine lv_iload_n hx hb dX6_swap_98 rfl (lv_at hl 2 rfl) ?_
                  refine lv_iload_n hx hb dX6_swap_99 rfl (lv_at hl 3 rfl) ?_
                  refine lv_iconst (v := (1 : Int32)) hx hb dX6_swap_100 rfl ?_
                  refine lv_iload hx hb dX6_swap_101 (lv_at hl 5 rfl) ?_
                  refine lv_ishl hx hb dX6_swap_103 ?_
                  refine lv_iconst (v := (-1 : Int32)) hx hb dX6_swap_104 rfl ?_
                  refine lv_ixor hx hb dX6_swap_105 ?_
                  refine lv_iand hx hb dX6_swap_106 ?_
                  refine lv_iload_n hx hb dX6_swap_107 rfl (lv_at hl 4 rfl) ?_
                  refine lv_iload_n hx hb dX6_swap_108 rfl (lv_at hl 3 rfl) ?_
                  refine lv_iconst (v := (-1 : Int32)) hx hb dX6_swap_109 rfl ?_
                  refine lv_ixor hx hb dX6_swap_110 ?_
                  refine lv_iand hx hb dX6_swap_111 ?_
                  obtain ⟨r28, q27, h⟩ := bd_o h
                  refine r_callVi (rest := []) C B hl (c_X2_swapOf G n s14 v1 (v2 &&& (((1 : Int32) <<< (v4 &&& 31)) ^^^ (-1 : Int32))) (v3 &&& (v2 ^^^ (-1 : Int32))) r28 q27) cs_X6_151 (cX_9 G s14) rfl rfl rfl (Nat.le_of_ble_eq_true rfl) ⟨rfl, rfl, Nat.le_of_ble_eq_true rfl, Nat.le_of_ble_eq_true rfl⟩ dX6_swap_112 (fun H locs B => ?_)
                  obtain ⟨rfl, rfl⟩ := ret2 h
                  exact r_iret C B hr rfl dX6_swap_115
                · have h := ig h q26
                  refine lv_bipush (v := (-5 : Int32)) hx hb dX6_swap_93 rfl ?_
                  obtain ⟨rfl, rfl⟩ := ret2 h
                  exact r_iret C B hr rfl dX6_swap_95
            · have h := ip h q20
              refine lv_bipush (v := (-5 : Int32)) hx hb dX6_swap_72 rfl ?_
              obtain ⟨rfl, rfl⟩ := ret2 h
              exact r_iret C B hr rfl dX6_swap_74
        · have h := ip h q12
          refine lv_bipush (v := (-2 : Int32)) hx hb dX6_swap_43 rfl ?_
          obtain ⟨rfl, rfl⟩ := ret2 h
          exact r_iret C B hr rfl dX6_swap_45
    · have h := ip h q6
      refine lv_iconst (v := (-1 : Int32)) hx hb dX6_swap_19 rfl ?_
      obtain ⟨rfl, rfl⟩ := ret2 h
      exact r_iret C B hr rfl dX6_swap_20
def rm_X2_stepsUp : Room := { frames := 4, cells := 0, slots := 0, locals := 87 }
set_option maxRecDepth 100000 in
set_option maxHeartbeats 4000000 in
theorem l_X2_stepsUp_L2 {G : GT} {p : Program} {e : Env} {s : State} {m : MethodId} {args : Array Value} {below : List Frame} {meth : Method} {c : Code} {Q : State → Prop} (C : CT G p s m meth c args cX2_stepsUp 6 RX2) (hr : meth.sig.returnType = (some .int)) (s0 : ST) (v1 : Int32) (v2 : Int32) (v4 : Int32) : ∀ (k : Nat) (v5 : Int32) (v3 : Int32) (e1 : Int32), X2_stepsUp_L2 s0 v1 v2 v4 k v5 v3 = some e1 → Kn G p e rm_X2_stepsUp s m args below meth c Q 6 77 [(0, .ref (gad G 9)), (1, .int v1), (2, .int v2), (4, .int v4), (3, .int e1)] (wX G s0) → Kn G p e rm_X2_stepsUp s m args below meth c Q 6 20 [(0, .ref (gad G 9)), (1, .int v1), (2, .int v2), (4, .int v4), (5, .int v5), (3, .int v3)] (wX G s0) := by
  have hx := C.1
  have hb := C.2.1
  intro k
  induction k with
  | zero =>
    intro v5 v3 e1 h
    exact nso h
  | succ k ih =>
    intro v5 v3 e1 h hk H locs ls B hl
    have h : X2_stepsUp_L2_b s0 v1 v2 v4 (X2_stepsUp_L2 s0 v1 v2 v4 k) v5 v3 = some e1 := h
    unfold X2_stepsUp_L2_b at h
    refine lv_iload hx hb dX2_stepsUp_20 (lv_at hl 4 rfl) ?_
    refine lv_aload_n hx hb dX2_stepsUp_22 rfl (lv_at hl 0 rfl) ?_
    refine r_get C B fo_X2_28 (cX_9 G s0) rfl dX2_stepsUp_23 ?_
    refine lv_icmp_ge (tgt := 77) hx hb dX2_stepsUp_26 (by decide) (fun q4 => ?_) (fun q4 => ?_)
    · have h := ip h q4
      obtain rfl := ret1 h
      exact hk H locs ls B (lv_sub hl [0, 1, 2, 3, 5] rfl)
    · have h := ig h q4
      refine lv_iload_n hx hb dX2_stepsUp_29 rfl (lv_at hl 2 rfl) ?_
      refine lv_iload hx hb dX2_stepsUp_30 (lv_at hl 3 rfl) ?_
      obtain ⟨r5, q6, h⟩ := bd_o h
      refine r_callSNi (rest := []) C B.2.2 hl (c_X6_has G v2 v4 r5 q6) cs_X2_53 rfl rfl (Nat.le_of_ble_eq_true rfl) ⟨rfl, rfl, Nat.le_of_ble_eq_true rfl, Nat.le_of_ble_eq_true rfl⟩ dX2_stepsUp_32 ?_
      refine lv_if_eq (tgt := 71) hx hb dX2_stepsUp_35 (by decide) (fun q7 => ?_) (fun q7 => ?_)
      · have h := ip h q7
        obtain ⟨v5_8, q9, h⟩ := nm_o h
        refine lv_iinc (v := v5_8) (lv' := [(5, .int v5_8), (0, .ref (gad G 9)), (1, .int v1), (2, .int v2), (4, .int v4), (3, .int v3)]) hx hb dX2_stepsUp_71 hl (k := 4) rfl q9.symm (by decide) rfl (fun ls hl => ?_)
        refine lv_goto (tgt := 20) hx hb dX2_stepsUp_74 (by decide) ?_
        exact ih v5_8 v3 e1 h hk H locs ls B (lv_sub hl [1, 2, 3, 4, 0, 5] rfl)
      · have h := ig h q7
        refine lv_iload_n hx hb dX2_stepsUp_38 rfl (lv_at hl 2 rfl) ?_
        refine lv_iload hx hb dX2_stepsUp_39 (lv_at hl 4 rfl) ?_
        obtain ⟨r10, q11, h⟩ := bd_o h
        refine r_callSNi (rest := []) C B.2.2 hl (c_X6_has G v2 v5 r10 q11) cs_X2_53 rfl rfl (Nat.le_of_ble_eq_true rfl) ⟨rfl, rfl, Nat.le_of_ble_eq_true rfl, Nat.le_of_ble_eq_true rfl⟩ dX2_stepsUp_41 ?_
        refine lv_if_ne (tgt := 71) hx hb dX2_stepsUp_44 (by decide) (fun q12 => ?_) (fun q12 => ?_)
        · have h := ig h q12
          obtain ⟨v5_13, q14, h⟩ := nm_o h
          refine lv_iinc (v := v5_13) (lv' := [(5, .int v5_13), (0, .ref (gad G 9)), (1, .int v1), (2, .int v2), (4, .int v4), (3, .int v3)]) hx hb dX2_stepsUp_71 hl (k := 4) rfl q14.symm (by decide) rfl (fun ls hl => ?_)
          refine lv_goto (tgt := 20) hx hb dX2_stepsUp_74 (by decide) ?_
          exact ih v5_13 v3 e1 h hk H locs ls B (lv_sub hl [1, 2, 3, 4, 0, 5] rfl)
        · have h := ip h q12
          refine lv_aload_n hx hb dX2_stepsUp_47 rfl (lv_at hl 0 rfl) ?_
          refine lv_iload_n hx hb dX2_stepsUp_48 rfl (lv_at hl 1 rfl) ?_
          refine lv_iload_n hx hb dX2_stepsUp_49 rfl (lv_at hl 2 rfl) ?_
          refine lv_iconst (v := (1 : Int32)) hx hb dX2_stepsUp_50 rfl ?_
          refine lv_iload hx hb dX2_stepsUp_51 (lv_at hl 3 rfl) ?_
          refine lv_ishl hx hb dX2_stepsUp_53 ?_
          refine lv_iconst (v := (-1 : Int32)) hx hb dX2_stepsUp_54 rfl ?_
          refine lv_ixor hx hb dX2_stepsUp_55 ?_
          refine lv_iand hx hb dX2_stepsUp_56 ?_
          refine lv_iconst (v := (1 : Int32)) hx hb dX2_stepsUp_57 rfl ?_
          refine lv_iload hx hb dX2_stepsUp_58 (lv_at hl 4 rfl) ?_
          refine lv_ishl hx hb dX2_stepsUp_60 ?_
          refine lv_ior hx hb dX2_stepsUp_61 ?_
          obtain ⟨r16, q15, h⟩ := bd_o h
          refine r_callVi (rest := []) C B hl (c_X2_isBase G s0 v1 ((v2 &&& (((1 : Int32) <<< (v4 &&& 31)) ^^^ (-1 : Int32))) ||| ((1 : Int32) <<< (v5 &&& 31))) r16 q15) cs_X2_100 (cX_9 G s0) rfl rfl rfl (Nat.le_of_ble_eq_true rfl) ⟨rfl, rfl, Nat.le_of_ble_eq_true rfl, Nat.le_of_ble_eq_true rfl⟩ dX2_stepsUp_62 (fun H locs B => ?_)
          refine lv_if_eq (tgt := 71) hx hb dX2_stepsUp_65 (by decide) (fun q17 => ?_) (fun q17 => ?_)
          · have h := ip h q17
            obtain ⟨v5_18, q19, h⟩ := nm_o h
            refine lv_iinc (v := v5_18) (lv' := [(5, .int v5_18), (0, .ref (gad G 9)), (1, .int v1), (2, .int v2), (4, .int v4), (3, .int v3)]) hx hb dX2_stepsUp_71 hl (k := 4) rfl q19.symm (by decide) rfl (fun ls hl => ?_)
            refine lv_goto (tgt := 20) hx hb dX2_stepsUp_74 (by decide) ?_
            exact ih v5_18 v3 e1 h hk H locs ls B (lv_sub hl [1, 2, 3, 4, 0, 5] rfl)
          · have h := ig h q17
            obtain ⟨v3_20, q21, h⟩ := nm_o h
            refine lv_iinc (v := v3_20) (lv' := [(3, .int v3_20), (0, .ref (gad G 9)), (1, .int v1), (2, .int v2), (4, .int v4), (5, .int v5)]) hx hb dX2_stepsUp_68 hl (k := 5) rfl q21.symm (by decide) rfl (fun ls hl => ?_)
            obtain ⟨v5_22, q23, h⟩ := nm_o h
            refine lv_iinc (v := v5_22) (lv' := [(5, .int v5_22), (3, .int v3_20), (0, .ref (gad G 9)), (1, .int v1), (2, .int v2), (4, .int v4)]) hx hb dX2_stepsUp_71 hl (k := 5) rfl q23.symm (by decide) rfl (fun ls hl => ?_)
            refine lv_goto (tgt := 20) hx hb dX2_stepsUp_74 (by decide) ?_
            exact ih v5_22 v3_20 e1 h hk H locs ls B (lv_sub hl [2, 3, 4, 5, 0, 1] rfl)
set_option maxRecDepth 100000 in
set_option maxHeartbeats 4000000 in
theorem l_X2_stepsUp_L1 {G : GT} {p : Program} {e : Env} {s : State} {m : MethodId} {args : Array Value} {below : List Frame} {meth : Method} {c : Code} {Q : State → Prop} (C : CT G p s m meth c args cX2_stepsUp 6 RX2) (hr : meth.sig.returnType = (some .int)) (n : Nat) (s0 : ST) (v1 : Int32) (v2 : Int32) : ∀ (k : Nat) (v4 : Int32) (v3 : Int32) (e1 : Int32), X2_stepsUp_L1 n s0 v1 v2 k v4 v3 = some e1 → Kn G p e rm_X2_stepsUp s m args below meth c Q 6 83 [(3, .int e1)] (wX G s0) → Kn G p e rm_X2_stepsUp s m args below meth c Q 6 5 [(0, .ref (gad G 9)), (1, .int v1), (2, .int v2), (4, .int v4), (3, .int v3)] (wX G s0) := by
  have hx := C.1
  have hb := C.2.1
  intro k
  induction k with
  | zero =>
    intro v4 v3 e1 h
    exact nso h
  | succ k ih =>
    intro v4 v3 e1 h hk H locs ls B hl
    have h : X2_stepsUp_L1_b n s0 v1 v2 (X2_stepsUp_L1 n s0 v1 v2 k) v4 v3 = some e1 := h
    unfold X2_stepsUp_L1_b at h
    refine lv_iload hx hb dX2_stepsUp_5 (lv_at hl 3 rfl) ?_
    refine lv_aload_n hx hb dX2_stepsUp_7 rfl (lv_at hl 0 rfl) ?_
    refine r_get C B fo_X2_28 (cX_9 G s0) rfl dX2_stepsUp_8 ?_
    refine lv_icmp_ge (tgt := 83) hx hb dX2_stepsUp_11 (by decide) (fun q1 => ?_) (fun q1 => ?_)
    · have h := ip h q1
      obtain rfl := ret1 h
      exact hk H locs ls B (lv_sub hl [4] rfl)
    · have h := ig h q1
      refine lv_iload hx hb dX2_stepsUp_14 (lv_at hl 3 rfl) ?_
      refine lv_iconst (v := (1 : Int32)) hx hb dX2_stepsUp_16 rfl ?_
      refine lv_iadd hx hb dX2_stepsUp_17 ?_
      obtain ⟨v5_2, q3, h⟩ := nm_o h
      refine r_nm q3 ?_
      refine lv_istore (lv' := [(5, .int v5_2), (0, .ref (gad G 9)), (1, .int v1), (2, .int v2), (4, .int v4), (3, .int v3)]) hx hb dX2_stepsUp_18 hl (by decide) rfl (fun ls hl => ?_)
      obtain ⟨e24, q25, h⟩ := bd_o h
      refine l_X2_stepsUp_L2 C hr s0 v1 v2 v4 n v5_2 v3 e24 q25 ?_ H locs ls B (lv_sub hl [1, 2, 3, 4, 0, 5] rfl)
      intro H locs ls B hl
      obtain ⟨v4_26, q27, h⟩ := nm_o h
      refine lv_iinc (v := v4_26) (lv' := [(4, .int v4_26), (0, .ref (gad G 9)), (1, .int v1), (2, .int v2), (3, .int e24)]) hx hb dX2_stepsUp_77 hl (k := 3) rfl q27.symm (by decide) rfl (fun ls hl => ?_)
      refine lv_goto (tgt := 5) hx hb dX2_stepsUp_80 (by decide) ?_
      exact ih v4_26 e24 e1 h hk H locs ls B (lv_sub hl [1, 2, 3, 0, 4] rfl)
set_option maxRecDepth 100000 in
set_option maxHeartbeats 4000000 in
theorem c_X2_stepsUp (G : GT) (n : Nat) (s0 : ST) (v1 : Int32) (v2 : Int32) (r : Int32) (h : X2_stepsUp n s0 v1 v2 = some r) : Con G yX2_stepsUp cX2_stepsUp 6 (some .int) rm_X2_stepsUp [.ref (gad G 9), .int v1, .int v2] (wX G s0) (some (.int r)) (wX G s0) := by
  unfold X2_stepsUp at h
  refine con_of (by decide +kernel) (Nat.le_of_ble_eq_true rfl) (fun {p e s m below meth c} C hr {H locs ls} B hl => ?_)
  have hx := C.1
  have hb := C.2.1
  have hl : lv_has ls 6 [(0, .ref (gad G 9)), (1, .int v1), (2, .int v2)] := hl
  refine lv_iconst (v := (0 : Int32)) hx hb dX2_stepsUp_0 rfl ?_
  refine lv_istore_n (lv' := [(3, .int (0 : Int32)), (0, .ref (gad G 9)), (1, .int v1), (2, .int v2)]) hx hb dX2_stepsUp_1 rfl hl (by decide) rfl (fun ls hl => ?_)
  refine lv_iconst (v := (0 : Int32)) hx hb dX2_stepsUp_2 rfl ?_
  refine lv_istore (lv' := [(4, .int (0 : Int32)), (3, .int (0 : Int32)), (0, .ref (gad G 9)), (1, .int v1), (2, .int v2)]) hx hb dX2_stepsUp_3 hl (by decide) rfl (fun ls hl => ?_)
  obtain ⟨e28, q29, h⟩ := bd_o h
  refine l_X2_stepsUp_L1 C hr n s0 v1 v2 n (0 : Int32) (0 : Int32) e28 q29 ?_ H locs ls B (lv_sub hl [2, 3, 4, 0, 1] rfl)
  intro H locs ls B hl
  refine lv_iload_n hx hb dX2_stepsUp_83 rfl (lv_at hl 0 rfl) ?_
  obtain rfl := ret1 h
  exact r_iret C B hr rfl dX2_stepsUp_84
def rm_X6_steps : Room := { frames := 5, cells := 0, slots := 0, locals := 112 }
set_option maxRecDepth 100000 in
set_option maxHeartbeats 4000000 in
theorem l_X6_steps_L1 {G : GT} {p : Program} {e : Env} {s : State} {m : MethodId} {args : Array Value} {below : List Frame} {meth : Method} {c : Code} {Q : State → Prop} (C : CT G p s m meth c args cX6_steps 6 RX6) (hr : meth.sig.returnType = (some .int)) (n : Nat) (s0 : ST) (v3 : Int32) (v1 : Int32) : ∀ (k : Nat) (v5 : Int32) (v4 : Int32) (e1 : Int32), X6_steps_L1 n s0 v3 v1 k v5 v4 = some e1 → Kn G p e rm_X6_steps s m args below meth c Q 6 62 [(4, .int e1)] (wX G s0) → Kn G p e rm_X6_steps s m args below meth c Q 6 28 [(2, .ref (gad G 9)), (3, .int v3), (1, .int v1), (5, .int v5), (4, .int v4)] (wX G s0) := by
  have hx := C.1
  have hb := C.2.1
  intro k
  induction k with
  | zero =>
    intro v5 v4 e1 h
    exact nso h
  | succ k ih =>
    intro v5 v4 e1 h hk H locs ls B hl
    have h : X6_steps_L1_b n s0 v3 v1 (X6_steps_L1 n s0 v3 v1 k) v5 v4 = some e1 := h
    unfold X6_steps_L1_b at h
    refine lv_iload hx hb dX6_steps_28 (lv_at hl 3 rfl) ?_
    refine lv_iload_n hx hb dX6_steps_30 rfl (lv_at hl 1 rfl) ?_
    refine lv_icmp_gt (tgt := 62) hx hb dX6_steps_31 (by decide) (fun q8 => ?_) (fun q8 => ?_)
    · have h := ip h q8
      obtain rfl := ret1 h
      exact hk H locs ls B (lv_sub hl [4] rfl)
    · have h := ig h q8
      refine lv_aload_n hx hb dX6_steps_34 rfl (lv_at hl 0 rfl) ?_
      refine lv_iload_n hx hb dX6_steps_35 rfl (lv_at hl 2 rfl) ?_
      refine lv_iload hx hb dX6_steps_36 (lv_at hl 3 rfl) ?_
      obtain ⟨r10, q9, h⟩ := bd_o h
      refine r_callVi (rest := []) C B hl (c_X2_isBase G s0 v1 v5 r10 q9) cs_X6_142 (cX_9 G s0) rfl rfl rfl (Nat.le_of_ble_eq_true rfl) ⟨rfl, rfl, Nat.le_of_ble_eq_true rfl, Nat.le_of_ble_eq_true rfl⟩ dX6_steps_38 (fun H locs B => ?_)
      refine lv_if_eq (tgt := 56) hx hb dX6_steps_41 (by decide) (fun q11 => ?_) (fun q11 => ?_)
      · have h := ip h q11
        obtain ⟨v5_12, q13, h⟩ := nm_o h
        refine lv_iinc (v := v5_12) (lv' := [(5, .int v5_12), (2, .ref (gad G 9)), (3, .int v3), (1, .int v1), (4, .int v4)]) hx hb dX6_steps_56 hl (k := 3) rfl q13.symm (by decide) rfl (fun ls hl => ?_)
        refine lv_goto (tgt := 28) hx hb dX6_steps_59 (by decide) ?_
        exact ih v5_12 v4 e1 h hk H locs ls B (lv_sub hl [1, 2, 3, 0, 4] rfl)
      · have h := ig h q11
        refine lv_iload hx hb dX6_steps_44 (lv_at hl 4 rfl) ?_
        refine lv_aload_n hx hb dX6_steps_46 rfl (lv_at hl 0 rfl) ?_
        refine lv_iload_n hx hb dX6_steps_47 rfl (lv_at hl 2 rfl) ?_
        refine lv_iload hx hb dX6_steps_48 (lv_at hl 3 rfl) ?_
        obtain ⟨r15, q14, h⟩ := bd_o h
        refine r_callVi (rest := [.int v4]) C B hl (c_X2_stepsUp G n s0 v1 v5 r15 q14) cs_X6_158 (cX_9 G s0) rfl rfl rfl (Nat.le_of_ble_eq_true rfl) ⟨rfl, rfl, Nat.le_of_ble_eq_true rfl, Nat.le_of_ble_eq_true rfl⟩ dX6_steps_50 (fun H locs B => ?_)
        refine lv_iadd hx hb dX6_steps_53 ?_
        obtain ⟨v4_16, q17, h⟩ := nm_o h
        refine r_nm q17 ?_
        refine lv_istore (lv' := [(4, .int v4_16), (2, .ref (gad G 9)), (3, .int v3), (1, .int v1), (5, .int v5)]) hx hb dX6_steps_54 hl (by decide) rfl (fun ls hl => ?_)
        obtain ⟨v5_18, q19, h⟩ := nm_o h
        refine lv_iinc (v := v5_18) (lv' := [(5, .int v5_18), (4, .int v4_16), (2, .ref (gad G 9)), (3, .int v3), (1, .int v1)]) hx hb dX6_steps_56 hl (k := 4) rfl q19.symm (by decide) rfl (fun ls hl => ?_)
        refine lv_goto (tgt := 28) hx hb dX6_steps_59 (by decide) ?_
        exact ih v5_18 v4_16 e1 h hk H locs ls B (lv_sub hl [2, 3, 4, 0, 1] rfl)
set_option maxRecDepth 100000 in
set_option maxHeartbeats 4000000 in
theorem c_X6_steps (G : GT) (n : Nat) (s0 : ST) (v1 : Int32) (r : Int32) (s' : ST) (h : X6_steps n s0 v1 = some (r, s')) : Con G yX6_steps cX6_steps 6 (some .int) rm_X6_steps [.ref (gad G 0), .int v1] (wX G s0) (some (.int r)) (wX G s') := by
  unfold X6_steps at h
  refine con_of (by decide +kernel) (Nat.le_of_ble_eq_true rfl) (fun {p e s m below meth c} C hr {H locs ls} B hl => ?_)
  have hx := C.1
  have hb := C.2.1
  have hl : lv_has ls 6 [(0, .ref (gad G 0)), (1, .int v1)] := hl
  refine lv_iload_n hx hb dX6_steps_0 rfl (lv_at hl 1 rfl) ?_
  obtain ⟨r1, q2, h⟩ := bd_o h
  refine r_callSi (rest := []) C B.2.2 hl (c_X6_isSide G v1 r1 q2) cs_X6_113 rfl rfl (Nat.le_of_ble_eq_true rfl) ⟨rfl, rfl, Nat.le_of_ble_eq_true rfl, Nat.le_of_ble_eq_true rfl⟩ dX6_steps_1 ?_
  refine lv_if_ne (tgt := 9) hx hb dX6_steps_4 (by decide) (fun q3 => ?_) (fun q3 => ?_)
  · have h := ig h q3
    refine lv_aload_n hx hb dX6_steps_9 rfl (lv_at hl 0 rfl) ?_
    obtain ⟨s5, q4, h⟩ := bd_o h
    refine r_callVa (rest := []) C B hl (c_X6_freshRanks G n s0 s5 q4) cs_X6_116 (cX_0 G s0) rfl rfl rfl (Nat.le_of_ble_eq_true rfl) ⟨rfl, rfl, Nat.le_of_ble_eq_true rfl, Nat.le_of_ble_eq_true rfl⟩ dX6_steps_10 (fun H locs B => ?_)
    refine lv_astore_n (lv' := [(2, .ref (gad G 9)), (0, .ref (gad G 0)), (1, .int v1)]) hx hb dX6_steps_13 rfl hl (by decide) rfl (fun ls hl => ?_)
    refine lv_aload_n hx hb dX6_steps_14 rfl (lv_at hl 1 rfl) ?_
    refine r_get C B fo_X6_10 (cX_0 G s5) rfl dX6_steps_15 ?_
    obtain ⟨r7, q6, h⟩ := bd_o h
    refine r_callVi (rest := []) C B hl (c_X4_all G s5 r7 q6) cs_X6_154 (cX_1 G s5) rfl rfl rfl (Nat.le_of_ble_eq_true rfl) ⟨rfl, rfl, Nat.le_of_ble_eq_true rfl, Nat.le_of_ble_eq_true rfl⟩ dX6_steps_18 (fun H locs B => ?_)
    refine lv_istore_n (lv' := [(3, .int r7), (2, .ref (gad G 9)), (0, .ref (gad G 0)), (1, .int v1)]) hx hb dX6_steps_21 rfl hl (by decide) rfl (fun ls hl => ?_)
    refine lv_iconst (v := (0 : Int32)) hx hb dX6_steps_22 rfl ?_
    refine lv_istore (lv' := [(4, .int (0 : Int32)), (3, .int r7), (2, .ref (gad G 9)), (0, .ref (gad G 0)), (1, .int v1)]) hx hb dX6_steps_23 hl (by decide) rfl (fun ls hl => ?_)
    refine lv_iconst (v := (0 : Int32)) hx hb dX6_steps_25 rfl ?_
    refine lv_istore (lv' := [(5, .int (0 : Int32)), (4, .int (0 : Int32)), (3, .int r7), (2, .ref (gad G 9)), (0, .ref (gad G 0)), (1, .int v1)]) hx hb dX6_steps_26 hl (by decide) rfl (fun ls hl => ?_)
    obtain ⟨e20, q21, h⟩ := bd_o h
    refine l_X6_steps_L1 C hr n s5 r7 v1 n (0 : Int32) (0 : Int32) e20 q21 ?_ H locs ls B (lv_sub hl [3, 2, 5, 0, 1] rfl)
    intro H locs ls B hl
    refine lv_iload hx hb dX6_steps_62 (lv_at hl 0 rfl) ?_
    obtain ⟨rfl, rfl⟩ := ret2 h
    exact r_iret C B hr rfl dX6_steps_64
  · have h := ip h q3
    refine lv_iconst (v := (-1 : Int32)) hx hb dX6_steps_7 rfl ?_
    obtain ⟨rfl, rfl⟩ := ret2 h
    exact r_iret C B hr rfl dX6_steps_8
def rm_X6_less : Room := { frames := 5, cells := 0, slots := 0, locals := 110 }
set_option maxRecDepth 100000 in
set_option maxHeartbeats 4000000 in
theorem c_X6_less (G : GT) (n : Nat) (s0 : ST) (v1 : Int32) (v2 : Int32) (v3 : Int32) (v4 : Int32) (r : Int32) (s' : ST) (h : X6_less n s0 v1 v2 v3 v4 = some (r, s')) : Con G yX6_less cX6_less 6 (some .int) rm_X6_less [.ref (gad G 0), .int v1, .int v2, .int v3, .int v4] (wX G s0) (some (.int r)) (wX G s') := by
  unfold X6_less at h
  refine con_of (by decide +kernel) (Nat.le_of_ble_eq_true rfl) (fun {p e s m below meth c} C hr {H locs ls} B hl => ?_)
  have hx := C.1
  have hb := C.2.1
  have hl : lv_has ls 6 [(0, .ref (gad G 0)), (1, .int v1), (2, .int v2), (3, .int v3), (4, .int v4)] := hl
  refine lv_iload_n hx hb dX6_less_0 rfl (lv_at hl 1 rfl) ?_
  obtain ⟨r1, q2, h⟩ := bd_o h
  refine r_callSi (rest := []) C B.2.2 hl (c_X6_isSide G v1 r1 q2) cs_X6_113 rfl rfl (Nat.le_of_ble_eq_true rfl) ⟨rfl, rfl, Nat.le_of_ble_eq_true rfl, Nat.le_of_ble_eq_true rfl⟩ dX6_less_1 ?_
  refine lv_if_ne (tgt := 9) hx hb dX6_less_4 (by decide) (fun q3 => ?_) (fun q3 => ?_)
  · have h := ig h q3
    refine lv_aload_n hx hb dX6_less_9 rfl (lv_at hl 0 rfl) ?_
    refine r_get C B fo_X6_10 (cX_0 G s0) rfl dX6_less_10 ?_
    refine lv_iload_n hx hb dX6_less_13 rfl (lv_at hl 2 rfl) ?_
    obtain ⟨r5, q4, h⟩ := bd_o h
    refine r_callVi (rest := []) C B hl (c_X4_isSet G s0 v2 r5 q4) cs_X6_79 (cX_1 G s0) rfl rfl rfl (Nat.le_of_ble_eq_true rfl) ⟨rfl, rfl, Nat.le_of_ble_eq_true rfl, Nat.le_of_ble_eq_true rfl⟩ dX6_less_14 (fun H locs B => ?_)
    refine lv_if_eq (tgt := 43) hx hb dX6_less_17 (by decide) (fun q6 => ?_) (fun q6 => ?_)
    · have h := ip h q6
      refine lv_bipush (v := (-2 : Int32)) hx hb dX6_less_43 rfl ?_
      obtain ⟨rfl, rfl⟩ := ret2 h
      exact r_iret C B hr rfl dX6_less_45
    · have h := ig h q6
      refine lv_aload_n hx hb dX6_less_20 rfl (lv_at hl 0 rfl) ?_
      refine r_get C B fo_X6_10 (cX_0 G s0) rfl dX6_less_21 ?_
      refine lv_iload_n hx hb dX6_less_24 rfl (lv_at hl 3 rfl) ?_
      obtain ⟨r8, q7, h⟩ := bd_o h
      refine r_callVi (rest := []) C B hl (c_X4_isSet G s0 v3 r8 q7) cs_X6_79 (cX_1 G s0) rfl rfl rfl (Nat.le_of_ble_eq_true rfl) ⟨rfl, rfl, Nat.le_of_ble_eq_true rfl, Nat.le_of_ble_eq_true rfl⟩ dX6_less_25 (fun H locs B => ?_)
      refine lv_if_eq (tgt := 43) hx hb dX6_less_28 (by decide) (fun q9 => ?_) (fun q9 => ?_)
      · have h := ip h q9
        refine lv_bipush (v := (-2 : Int32)) hx hb dX6_less_43 rfl ?_
        obtain ⟨rfl, rfl⟩ := ret2 h
        exact r_iret C B hr rfl dX6_less_45
      · have h := ig h q9
        refine lv_aload_n hx hb dX6_less_31 rfl (lv_at hl 0 rfl) ?_
        refine r_get C B fo_X6_10 (cX_0 G s0) rfl dX6_less_32 ?_
        refine lv_iload hx hb dX6_less_35 (lv_at hl 4 rfl) ?_
        obtain ⟨r11, q10, h⟩ := bd_o h
        refine r_callVi (rest := []) C B hl (c_X4_isSet G s0 v4 r11 q10) cs_X6_79 (cX_1 G s0) rfl rfl rfl (Nat.le_of_ble_eq_true rfl) ⟨rfl, rfl, Nat.le_of_ble_eq_true rfl, Nat.le_of_ble_eq_true rfl⟩ dX6_less_37 (fun H locs B => ?_)
        refine lv_if_ne (tgt := 46) hx hb dX6_less_40 (by decide) (fun q12 => ?_) (fun q12 => ?_)
        · have h := ig h q12
          refine lv_iload_n hx hb dX6_less_46 rfl (lv_at hl 2 rfl) ?_
          refine lv_iload_n hx hb dX6_less_47 rfl (lv_at hl 3 rfl) ?_
          refine lv_iand hx hb dX6_less_48 ?_
          refine lv_if_ne (tgt := 66) hx hb dX6_less_49 (by decide) (fun q13 => ?_) (fun q13 => ?_)
          · have h := ig h q13
            refine lv_bipush (v := (-2 : Int32)) hx hb dX6_less_66 rfl ?_
            obtain ⟨rfl, rfl⟩ := ret2 h
            exact r_iret C B hr rfl dX6_less_68
          · have h := ip h q13
            refine lv_iload_n hx hb dX6_less_52 rfl (lv_at hl 2 rfl) ?_
            refine lv_iload hx hb dX6_less_53 (lv_at hl 4 rfl) ?_
            refine lv_iand hx hb dX6_less_55 ?_
            refine lv_if_ne (tgt := 66) hx hb dX6_less_56 (by decide) (fun q14 => ?_) (fun q14 => ?_)
            · have h := ig h q14
              refine lv_bipush (v := (-2 : Int32)) hx hb dX6_less_66 rfl ?_
              obtain ⟨rfl, rfl⟩ := ret2 h
              exact r_iret C B hr rfl dX6_less_68
            · have h := ip h q14
              refine lv_iload_n hx hb dX6_less_59 rfl (lv_at hl 3 rfl) ?_
              refine lv_iload hx hb dX6_less_60 (lv_at hl 4 rfl) ?_
              refine lv_iand hx hb dX6_less_62 ?_
              refine lv_if_eq (tgt := 69) hx hb dX6_less_63 (by decide) (fun q15 => ?_) (fun q15 => ?_)
              · have h := ip h q15
                refine lv_aload_n hx hb dX6_less_69 rfl (lv_at hl 0 rfl) ?_
                obtain ⟨s17, q16, h⟩ := bd_o h
                refine r_callVa (rest := []) C B hl (c_X6_freshRanks G n s0 s17 q16) cs_X6_116 (cX_0 G s0) rfl rfl rfl (Nat.le_of_ble_eq_true rfl) ⟨rfl, rfl, Nat.le_of_ble_eq_true rfl, Nat.le_of_ble_eq_true rfl⟩ dX6_less_70 (fun H locs B => ?_)
                refine lv_astore (lv' := [(5, .ref (gad G 9)), (0, .ref (gad G 0)), (1, .int v1), (2, .int v2), (3, .int v3), (4, .int v4)]) hx hb dX6_less_73 hl (by decide) rfl (fun ls hl => ?_)
                refine lv_aload hx hb dX6_less_75 (lv_at hl 0 rfl) ?_
                refine lv_iload_n hx hb dX6_less_77 rfl (lv_at hl 2 rfl) ?_
                refine lv_iload hx hb dX6_less_78 (lv_at hl 5 rfl) ?_
                refine lv_iload_n hx hb dX6_less_80 rfl (lv_at hl 4 rfl) ?_
                refine lv_ior hx hb dX6_less_81 ?_
                obtain ⟨r19, q18, h⟩ := bd_o h
                refine r_callVi (rest := []) C B hl (c_X2_of G s17 v1 (v4 ||| v3) r19 q18) cs_X6_120 (cX_9 G s17) rfl rfl rfl (Nat.le_of_ble_eq_true rfl) ⟨rfl, rfl, Nat.le_of_ble_eq_true rfl, Nat.le_of_ble_eq_true rfl⟩ dX6_less_82 (fun H locs B => ?_)
                refine lv_aload hx hb dX6_less_85 (lv_at hl 0 rfl) ?_
                refine lv_iload_n hx hb dX6_less_87 rfl (lv_at hl 2 rfl) ?_
                refine lv_iload_n hx hb dX6_less_88 rfl (lv_at hl 4 rfl) ?_
                obtain ⟨r21, q20, h⟩ := bd_o h
                refine r_callVi (rest := [.int r19]) C B hl (c_X2_of G s17 v1 v3 r21 q20) cs_X6_120 (cX_9 G s17) rfl rfl rfl (Nat.le_of_ble_eq_true rfl) ⟨rfl, rfl, Nat.le_of_ble_eq_true rfl, Nat.le_of_ble_eq_true rfl⟩ dX6_less_89 (fun H locs B => ?_)
                refine lv_isub hx hb dX6_less_92 ?_
                obtain ⟨rfl, rfl⟩ := ret2 h
                exact r_iret C B hr rfl dX6_less_93
              · have h := ig h q15
                refine lv_bipush (v := (-2 : Int32)) hx hb dX6_less_66 rfl ?_
                obtain ⟨rfl, rfl⟩ := ret2 h
                exact r_iret C B hr rfl dX6_less_68
        · have h := ip h q12
          refine lv_bipush (v := (-2 : Int32)) hx hb dX6_less_43 rfl ?_
          obtain ⟨rfl, rfl⟩ := ret2 h
          exact r_iret C B hr rfl dX6_less_45
  · have h := ip h q3
    refine lv_iconst (v := (-1 : Int32)) hx hb dX6_less_7 rfl ?_
    obtain ⟨rfl, rfl⟩ := ret2 h
    exact r_iret C B hr rfl dX6_less_8
def rm_X4_weightOf : Room := { frames := 1, cells := 0, slots := 0, locals := 21 }
set_option maxRecDepth 100000 in
set_option maxHeartbeats 4000000 in
theorem l_X4_weightOf_L1 {G : GT} {p : Program} {e : Env} {s : State} {m : MethodId} {args : Array Value} {below : List Frame} {meth : Method} {c : Code} {Q : State → Prop} (C : CT G p s m meth c args cX4_weightOf 4 RX4) (hr : meth.sig.returnType = (some .int)) (s0 : ST) (v1 : Int32) : ∀ (k : Nat) (v3 : Int32) (v2 : Int32) (e1 : Int32), X4_weightOf_L1 s0 v1 k v3 v2 = some e1 → Kn G p e rm_X4_weightOf s m args below meth c Q 4 35 [(2, .int e1)] (wX G s0) → Kn G p e rm_X4_weightOf s m args below meth c Q 4 4 [(0, .ref (gad G 1)), (1, .int v1), (3, .int v3), (2, .int v2)] (wX G s0) := by
  have hx := C.1
  have hb := C.2.1
  intro k
  induction k with
  | zero =>
    intro v3 v2 e1 h
    exact nso h
  | succ k ih =>
    intro v3 v2 e1 h hk H locs ls B hl
    have h : X4_weightOf_L1_b s0 v1 (X4_weightOf_L1 s0 v1 k) v3 v2 = some e1 := h
    unfold X4_weightOf_L1_b at h
    refine lv_iload_n hx hb dX4_weightOf_4 rfl (lv_at hl 2 rfl) ?_
    refine lv_aload_n hx hb dX4_weightOf_5 rfl (lv_at hl 0 rfl) ?_
    refine r_get C B fo_X4_9 (cX_1 G s0) rfl dX4_weightOf_6 ?_
    refine lv_icmp_ge (tgt := 35) hx hb dX4_weightOf_9 (by decide) (fun q1 => ?_) (fun q1 => ?_)
    · have h := ip h q1
      obtain rfl := ret1 h
      exact hk H locs ls B (lv_sub hl [3] rfl)
    · have h := ig h q1
      refine lv_iload_n hx hb dX4_weightOf_12 rfl (lv_at hl 1 rfl) ?_
      refine lv_iload_n hx hb dX4_weightOf_13 rfl (lv_at hl 2 rfl) ?_
      obtain ⟨r2, q3, h⟩ := bd_o h
      refine r_callSNi (rest := []) C B.2.2 hl (c_X6_has G v1 v3 r2 q3) cs_X4_50 rfl rfl (Nat.le_of_ble_eq_true rfl) ⟨rfl, rfl, Nat.le_of_ble_eq_true rfl, Nat.le_of_ble_eq_true rfl⟩ dX4_weightOf_14 ?_
      refine lv_if_eq (tgt := 29) hx hb dX4_weightOf_17 (by decide) (fun q4 => ?_) (fun q4 => ?_)
      · have h := ip h q4
        obtain ⟨v3_5, q6, h⟩ := nm_o h
        refine lv_iinc (v := v3_5) (lv' := [(3, .int v3_5), (0, .ref (gad G 1)), (1, .int v1), (2, .int v2)]) hx hb dX4_weightOf_29 hl (k := 2) rfl q6.symm (by decide) rfl (fun ls hl => ?_)
        refine lv_goto (tgt := 4) hx hb dX4_weightOf_32 (by decide) ?_
        exact ih v3_5 v2 e1 h hk H locs ls B (lv_sub hl [1, 2, 0, 3] rfl)
      · have h := ig h q4
        refine lv_iload_n hx hb dX4_weightOf_20 rfl (lv_at hl 3 rfl) ?_
        refine lv_aload_n hx hb dX4_weightOf_21 rfl (lv_at hl 0 rfl) ?_
        refine r_get C B fo_X4_28 (cX_1 G s0) rfl dX4_weightOf_22 ?_
        refine lv_iload_n hx hb dX4_weightOf_25 rfl (lv_at hl 2 rfl) ?_
        obtain ⟨q7, h⟩ := gd_o h
        refine r_iald C B (cX_3 G s0) (inb_vp q7) dX4_weightOf_26 ?_
        refine lv_iadd hx hb dX4_weightOf_27 ?_
        obtain ⟨v2_8, q9, h⟩ := nm_o h
        refine r_nm q9 ?_
        refine lv_istore_n (lv' := [(2, .int v2_8), (0, .ref (gad G 1)), (1, .int v1), (3, .int v3)]) hx hb dX4_weightOf_28 rfl hl (by decide) rfl (fun ls hl => ?_)
        obtain ⟨v3_10, q11, h⟩ := nm_o h
        refine lv_iinc (v := v3_10) (lv' := [(3, .int v3_10), (2, .int v2_8), (0, .ref (gad G 1)), (1, .int v1)]) hx hb dX4_weightOf_29 hl (k := 3) rfl q11.symm (by decide) rfl (fun ls hl => ?_)
        refine lv_goto (tgt := 4) hx hb dX4_weightOf_32 (by decide) ?_
        exact ih v3_10 v2_8 e1 h hk H locs ls B (lv_sub hl [2, 3, 0, 1] rfl)
set_option maxRecDepth 100000 in
set_option maxHeartbeats 4000000 in
theorem c_X4_weightOf (G : GT) (n : Nat) (s0 : ST) (v1 : Int32) (r : Int32) (h : X4_weightOf n s0 v1 = some r) : Con G yX4_weightOf cX4_weightOf 4 (some .int) rm_X4_weightOf [.ref (gad G 1), .int v1] (wX G s0) (some (.int r)) (wX G s0) := by
  unfold X4_weightOf at h
  refine con_of (by decide +kernel) (Nat.le_of_ble_eq_true rfl) (fun {p e s m below meth c} C hr {H locs ls} B hl => ?_)
  have hx := C.1
  have hb := C.2.1
  have hl : lv_has ls 4 [(0, .ref (gad G 1)), (1, .int v1)] := hl
  refine lv_iconst (v := (0 : Int32)) hx hb dX4_weightOf_0 rfl ?_
  refine lv_istore_n (lv' := [(2, .int (0 : Int32)), (0, .ref (gad G 1)), (1, .int v1)]) hx hb dX4_weightOf_1 rfl hl (by decide) rfl (fun ls hl => ?_)
  refine lv_iconst (v := (0 : Int32)) hx hb dX4_weightOf_2 rfl ?_
  refine lv_istore_n (lv' := [(3, .int (0 : Int32)), (2, .int (0 : Int32)), (0, .ref (gad G 1)), (1, .int v1)]) hx hb dX4_weightOf_3 rfl hl (by decide) rfl (fun ls hl => ?_)
  obtain ⟨e12, q13, h⟩ := bd_o h
  refine l_X4_weightOf_L1 C hr s0 v1 n (0 : Int32) (0 : Int32) e12 q13 ?_ H locs ls B (lv_sub hl [2, 3, 0, 1] rfl)
  intro H locs ls B hl
  refine lv_iload_n hx hb dX4_weightOf_35 rfl (lv_at hl 0 rfl) ?_
  obtain rfl := ret1 h
  exact r_iret C B hr rfl dX4_weightOf_36
def rm_X6_heaviest : Room := { frames := 5, cells := 0, slots := 0, locals := 110 }
set_option maxRecDepth 100000 in
set_option maxHeartbeats 4000000 in
theorem l_X6_heaviest_L1 {G : GT} {p : Program} {e : Env} {s : State} {m : MethodId} {args : Array Value} {below : List Frame} {meth : Method} {c : Code} {Q : State → Prop} (C : CT G p s m meth c args cX6_heaviest 8 RX6) (hr : meth.sig.returnType = (some .int)) (n : Nat) (s0 : ST) (v4 : Int32) (v1 : Int32) (v2 : Int32) : ∀ (k : Nat) (v7 : Int32) (v6 : Int32) (v5 : Int32) (e1 : Int32 × Int32), X6_heaviest_L1 n s0 v4 v1 k v7 v6 v5 = some e1 → Kn G p e rm_X6_heaviest s m args below meth c Q 8 91 [(2, .int v2), (6, .int e1.1), (5, .int e1.2)] (wX G s0) → Kn G p e rm_X6_heaviest s m args below meth c Q 8 39 [(3, .ref (gad G 9)), (0, .ref (gad G 0)), (4, .int v4), (1, .int v1), (2, .int v2), (7, .int v7), (6, .int v6), (5, .int v5)] (wX G s0) := by
  have hx := C.1
  have hb := C.2.1
  intro k
  induction k with
  | zero =>
    intro v7 v6 v5 e1 h
    exact nso h
  | succ k ih =>
    intro v7 v6 v5 e1 h hk H locs ls B hl
    have h : X6_heaviest_L1_b n s0 v4 v1 (X6_heaviest_L1 n s0 v4 v1 k) v7 v6 v5 = some e1 := h
    unfold X6_heaviest_L1_b at h
    refine lv_iload hx hb dX6_heaviest_39 (lv_at hl 5 rfl) ?_
    refine lv_iload hx hb dX6_heaviest_41 (lv_at hl 2 rfl) ?_
    refine lv_icmp_gt (tgt := 91) hx hb dX6_heaviest_43 (by decide) (fun q11 => ?_) (fun q11 => ?_)
    · have h := ip h q11
      obtain rfl := ret1 h
      exact hk H locs ls B (lv_sub hl [4, 6, 7] rfl)
    · have h := ig h q11
      refine lv_aload_n hx hb dX6_heaviest_46 rfl (lv_at hl 0 rfl) ?_
      refine lv_iload_n hx hb dX6_heaviest_47 rfl (lv_at hl 3 rfl) ?_
      refine lv_iload hx hb dX6_heaviest_48 (lv_at hl 5 rfl) ?_
      obtain ⟨r13, q12, h⟩ := bd_o h
      refine r_callVi (rest := []) C B hl (c_X2_isBase G s0 v1 v7 r13 q12) cs_X6_142 (cX_9 G s0) rfl rfl rfl (Nat.le_of_ble_eq_true rfl) ⟨rfl, rfl, Nat.le_of_ble_eq_true rfl, Nat.le_of_ble_eq_true rfl⟩ dX6_heaviest_50 (fun H locs B => ?_)
      refine lv_if_eq (tgt := 85) hx hb dX6_heaviest_53 (by decide) (fun q14 => ?_) (fun q14 => ?_)
      · have h := ip h q14
        obtain ⟨v7_15, q16, h⟩ := nm_o h
        refine lv_iinc (v := v7_15) (lv' := [(7, .int v7_15), (3, .ref (gad G 9)), (0, .ref (gad G 0)), (4, .int v4), (1, .int v1), (2, .int v2), (6, .int v6), (5, .int v5)]) hx hb dX6_heaviest_85 hl (k := 5) rfl q16.symm (by decide) rfl (fun ls hl => ?_)
        refine lv_goto (tgt := 39) hx hb dX6_heaviest_88 (by decide) ?_
        exact ih v7_15 v6 v5 e1 h hk H locs ls B (lv_sub hl [1, 2, 3, 4, 5, 0, 6, 7] rfl)
      · have h := ig h q14
        refine lv_aload_n hx hb dX6_heaviest_56 rfl (lv_at hl 1 rfl) ?_
        refine r_get C B fo_X6_10 (cX_0 G s0) rfl dX6_heaviest_57 ?_
        refine lv_iload hx hb dX6_heaviest_60 (lv_at hl 5 rfl) ?_
        obtain ⟨r18, q17, h⟩ := bd_o h
        refine r_callVi (rest := []) C B hl (c_X4_weightOf G n s0 v7 r18 q17) cs_X6_161 (cX_1 G s0) rfl rfl rfl (Nat.le_of_ble_eq_true rfl) ⟨rfl, rfl, Nat.le_of_ble_eq_true rfl, Nat.le_of_ble_eq_true rfl⟩ dX6_heaviest_62 (fun H locs B => ?_)
        refine lv_iload hx hb dX6_heaviest_65 (lv_at hl 6 rfl) ?_
        refine lv_icmp_le (tgt := 85) hx hb dX6_heaviest_67 (by decide) (fun q19 => ?_) (fun q19 => ?_)
        · have h := ip h q19
          obtain ⟨v7_20, q21, h⟩ := nm_o h
          refine lv_iinc (v := v7_20) (lv' := [(7, .int v7_20), (3, .ref (gad G 9)), (0, .ref (gad G 0)), (4, .int v4), (1, .int v1), (2, .int v2), (6, .int v6), (5, .int v5)]) hx hb dX6_heaviest_85 hl (k := 5) rfl q21.symm (by decide) rfl (fun ls hl => ?_)
          refine lv_goto (tgt := 39) hx hb dX6_heaviest_88 (by decide) ?_
          exact ih v7_20 v6 v5 e1 h hk H locs ls B (lv_sub hl [1, 2, 3, 4, 5, 0, 6, 7] rfl)
        · have h := ig h q19
          refine lv_iload hx hb dX6_heaviest_70 (lv_at hl 5 rfl) ?_
          refine lv_istore (lv' := [(5, .int v7), (3, .ref (gad G 9)), (0, .ref (gad G 0)), (4, .int v4), (1, .int v1), (2, .int v2), (7, .int v7), (6, .int v6)]) hx hb dX6_heaviest_72 hl (by decide) rfl (fun ls hl => ?_)
          refine lv_aload_n hx hb dX6_heaviest_74 rfl (lv_at hl 2 rfl) ?_
          refine r_get C B fo_X6_10 (cX_0 G s0) rfl dX6_heaviest_75 ?_
          refine lv_iload hx hb dX6_heaviest_78 (lv_at hl 6 rfl) ?_
          obtain ⟨r23, q22, h⟩ := bd_o h
          refine r_callVi (rest := []) C B hl (c_X4_weightOf G n s0 v7 r23 q22) cs_X6_161 (cX_1 G s0) rfl rfl rfl (Nat.le_of_ble_eq_true rfl) ⟨rfl, rfl, Nat.le_of_ble_eq_true rfl, Nat.le_of_ble_eq_true rfl⟩ dX6_heaviest_80 (fun H locs B => ?_)
          refine lv_istore (lv' := [(6, .int r23), (5, .int v7), (3, .ref (gad G 9)), (0, .ref (gad G 0)), (4, .int v4), (1, .int v1), (2, .int v2), (7, .int v7)]) hx hb dX6_heaviest_83 hl (by decide) rfl (fun ls hl => ?_)
          obtain ⟨v7_24, q25, h⟩ := nm_o h
          refine lv_iinc (v := v7_24) (lv' := [(7, .int v7_24), (6, .int r23), (5, .int v7), (3, .ref (gad G 9)), (0, .ref (gad G 0)), (4, .int v4), (1, .int v1), (2, .int v2)]) hx hb dX6_heaviest_85 hl (k := 7) rfl q25.symm (by decide) rfl (fun ls hl => ?_)
          refine lv_goto (tgt := 39) hx hb dX6_heaviest_88 (by decide) ?_
          exact ih v7_24 r23 v7 e1 h hk H locs ls B (lv_sub hl [3, 4, 5, 6, 7, 0, 1, 2] rfl)
set_option maxRecDepth 100000 in
set_option maxHeartbeats 4000000 in
theorem c_X6_heaviest (G : GT) (n : Nat) (s0 : ST) (v1 : Int32) (v2 : Int32) (r : Int32) (s' : ST) (h : X6_heaviest n s0 v1 v2 = some (r, s')) : Con G yX6_heaviest cX6_heaviest 8 (some .int) rm_X6_heaviest [.ref (gad G 0), .int v1, .int v2] (wX G s0) (some (.int r)) (wX G s') := by
  unfold X6_heaviest at h
  refine con_of (by decide +kernel) (Nat.le_of_ble_eq_true rfl) (fun {p e s m below meth c} C hr {H locs ls} B hl => ?_)
  have hx := C.1
  have hb := C.2.1
  have hl : lv_has ls 8 [(0, .ref (gad G 0)), (1, .int v1), (2, .int v2)] := hl
  refine lv_iload_n hx hb dX6_heaviest_0 rfl (lv_at hl 1 rfl) ?_
  obtain ⟨r1, q2, h⟩ := bd_o h
  refine r_callSi (rest := []) C B.2.2 hl (c_X6_isSide G v1 r1 q2) cs_X6_113 rfl rfl (Nat.le_of_ble_eq_true rfl) ⟨rfl, rfl, Nat.le_of_ble_eq_true rfl, Nat.le_of_ble_eq_true rfl⟩ dX6_heaviest_1 ?_
  refine lv_if_eq (tgt := 14) hx hb dX6_heaviest_4 (by decide) (fun q3 => ?_) (fun q3 => ?_)
  · have h := ip h q3
    refine lv_iconst (v := (-1 : Int32)) hx hb dX6_heaviest_14 rfl ?_
    obtain ⟨rfl, rfl⟩ := ret2 h
    exact r_iret C B hr rfl dX6_heaviest_15
  · have h := ig h q3
    refine lv_iload_n hx hb dX6_heaviest_7 rfl (lv_at hl 2 rfl) ?_
    obtain ⟨r4, q5, h⟩ := bd_o h
    refine r_callSi (rest := []) C B.2.2 hl (c_X6_isEither G v2 r4 q5) cs_X6_135 rfl rfl (Nat.le_of_ble_eq_true rfl) ⟨rfl, rfl, Nat.le_of_ble_eq_true rfl, Nat.le_of_ble_eq_true rfl⟩ dX6_heaviest_8 ?_
    refine lv_if_ne (tgt := 16) hx hb dX6_heaviest_11 (by decide) (fun q6 => ?_) (fun q6 => ?_)
    · have h := ig h q6
      refine lv_aload_n hx hb dX6_heaviest_16 rfl (lv_at hl 0 rfl) ?_
      obtain ⟨s8, q7, h⟩ := bd_o h
      refine r_callVa (rest := []) C B hl (c_X6_freshRanks G n s0 s8 q7) cs_X6_116 (cX_0 G s0) rfl rfl rfl (Nat.le_of_ble_eq_true rfl) ⟨rfl, rfl, Nat.le_of_ble_eq_true rfl, Nat.le_of_ble_eq_true rfl⟩ dX6_heaviest_17 (fun H locs B => ?_)
      refine lv_astore_n (lv' := [(3, .ref (gad G 9)), (0, .ref (gad G 0)), (1, .int v1), (2, .int v2)]) hx hb dX6_heaviest_20 rfl hl (by decide) rfl (fun ls hl => ?_)
      refine lv_aload_n hx hb dX6_heaviest_21 rfl (lv_at hl 1 rfl) ?_
      refine r_get C B fo_X6_10 (cX_0 G s8) rfl dX6_heaviest_22 ?_
      obtain ⟨r10, q9, h⟩ := bd_o h
      refine r_callVi (rest := []) C B hl (c_X4_all G s8 r10 q9) cs_X6_154 (cX_1 G s8) rfl rfl rfl (Nat.le_of_ble_eq_true rfl) ⟨rfl, rfl, Nat.le_of_ble_eq_true rfl, Nat.le_of_ble_eq_true rfl⟩ dX6_heaviest_25 (fun H locs B => ?_)
      refine lv_istore (lv' := [(4, .int r10), (3, .ref (gad G 9)), (0, .ref (gad G 0)), (1, .int v1), (2, .int v2)]) hx hb dX6_heaviest_28 hl (by decide) rfl (fun ls hl => ?_)
      refine lv_iconst (v := (0 : Int32)) hx hb dX6_heaviest_30 rfl ?_
      refine lv_istore (lv' := [(5, .int (0 : Int32)), (4, .int r10), (3, .ref (gad G 9)), (0, .ref (gad G 0)), (1, .int v1), (2, .int v2)]) hx hb dX6_heaviest_31 hl (by decide) rfl (fun ls hl => ?_)
      refine lv_iconst (v := (-1 : Int32)) hx hb dX6_heaviest_33 rfl ?_
      refine lv_istore (lv' := [(6, .int (-1 : Int32)), (5, .int (0 : Int32)), (4, .int r10), (3, .ref (gad G 9)), (0, .ref (gad G 0)), (1, .int v1), (2, .int v2)]) hx hb dX6_heaviest_34 hl (by decide) rfl (fun ls hl => ?_)
      refine lv_iconst (v := (0 : Int32)) hx hb dX6_heaviest_36 rfl ?_
      refine lv_istore (lv' := [(7, .int (0 : Int32)), (6, .int (-1 : Int32)), (5, .int (0 : Int32)), (4, .int r10), (3, .ref (gad G 9)), (0, .ref (gad G 0)), (1, .int v1), (2, .int v2)]) hx hb dX6_heaviest_37 hl (by decide) rfl (fun ls hl => ?_)
      obtain ⟨e26, q27, h⟩ := bd_o h
      refine l_X6_heaviest_L1 C hr n s8 r10 v1 v2 n (0 : Int32) (-1 : Int32) (0 : Int32) e26 q27 ?_ H locs ls B (lv_sub hl [4, 5, 3, 6, 7, 0, 1, 2] rfl)
      intro H locs ls B hl
      refine lv_iload_n hx hb dX6_heaviest_91 rfl (lv_at hl 0 rfl) ?_
      refine lv_if_ne (tgt := 100) hx hb dX6_heaviest_92 (by decide) (fun q28 => ?_) (fun q28 => ?_)
      · have h := ig h q28
        refine lv_iload hx hb dX6_heaviest_100 (lv_at hl 1 rfl) ?_
        obtain ⟨rfl, rfl⟩ := ret2 h
        exact r_iret C B hr rfl dX6_heaviest_102
      · have h := ip h q28
        refine lv_iload hx hb dX6_heaviest_95 (lv_at hl 2 rfl) ?_
        refine lv_goto (tgt := 102) hx hb dX6_heaviest_97 (by decide) ?_
        obtain ⟨rfl, rfl⟩ := ret2 h
        exact r_iret C B hr rfl dX6_heaviest_102
    · have h := ip h q6
      refine lv_iconst (v := (-1 : Int32)) hx hb dX6_heaviest_14 rfl ?_
      obtain ⟨rfl, rfl⟩ := ret2 h
      exact r_iret C B hr rfl dX6_heaviest_15
def rm_X6_alike : Room := { frames := 5, cells := 0, slots := 0, locals := 110 }
set_option maxRecDepth 100000 in
set_option maxHeartbeats 4000000 in
theorem l_X6_alike_L1 {G : GT} {p : Program} {e : Env} {s : State} {m : MethodId} {args : Array Value} {below : List Frame} {meth : Method} {c : Code} {Q : State → Prop} (C : CT G p s m meth c args cX6_alike 6 RX6) (hr : meth.sig.returnType = (some .int)) (s0 : ST) (v4 : Int32) (v1 : Int32) (v2 : Int32) : ∀ (k : Nat) (v5 : Int32) (e1 : (Int32 × ST) ⊕ (Unit)), X6_alike_L1 s0 v4 v1 v2 k v5 = some e1 → (∀ rv, e1 = Sum.inl rv → Q = QR G below args s (some (.int rv.1)) (wX G rv.2)) → (∀ ex, e1 = Sum.inr ex → Kn G p e rm_X6_alike s m args below meth c Q 6 66 [] (wX G s0)) → Kn G p e rm_X6_alike s m args below meth c Q 6 33 [(3, .ref (gad G 9)), (4, .int v4), (1, .int v1), (2, .int v2), (5, .int v5)] (wX G s0) := by
  have hx := C.1
  have hb := C.2.1
  intro k
  induction k with
  | zero =>
    intro v5 e1 h
    exact nso h
  | succ k ih =>
    intro v5 e1 h hret hk H locs ls B hl
    have h : X6_alike_L1_b s0 v4 v1 v2 (X6_alike_L1 s0 v4 v1 v2 k) v5 = some e1 := h
    unfold X6_alike_L1_b at h
    refine lv_iload hx hb dX6_alike_33 (lv_at hl 4 rfl) ?_
    refine lv_iload hx hb dX6_alike_35 (lv_at hl 1 rfl) ?_
    refine lv_icmp_gt (tgt := 66) hx hb dX6_alike_37 (by decide) (fun q11 => ?_) (fun q11 => ?_)
    · have h := ip h q11
      obtain rfl := ret1 h
      exact hk _ rfl H locs ls B (lv_sub hl [] rfl)
    · have h := ig h q11
      refine lv_aload_n hx hb dX6_alike_40 rfl (lv_at hl 0 rfl) ?_
      refine lv_iload_n hx hb dX6_alike_41 rfl (lv_at hl 2 rfl) ?_
      refine lv_iload hx hb dX6_alike_42 (lv_at hl 4 rfl) ?_
      obtain ⟨r13, q12, h⟩ := bd_o h
      refine r_callVi (rest := []) C B hl (c_X2_of G s0 v1 v5 r13 q12) cs_X6_120 (cX_9 G s0) rfl rfl rfl (Nat.le_of_ble_eq_true rfl) ⟨rfl, rfl, Nat.le_of_ble_eq_true rfl, Nat.le_of_ble_eq_true rfl⟩ dX6_alike_44 (fun H locs B => ?_)
      refine lv_aload_n hx hb dX6_alike_47 rfl (lv_at hl 0 rfl) ?_
      refine lv_iload_n hx hb dX6_alike_48 rfl (lv_at hl 3 rfl) ?_
      refine lv_iload hx hb dX6_alike_49 (lv_at hl 4 rfl) ?_
      obtain ⟨r15, q14, h⟩ := bd_o h
      refine r_callVi (rest := [.int r13]) C B hl (c_X2_of G s0 v2 v5 r15 q14) cs_X6_120 (cX_9 G s0) rfl rfl rfl (Nat.le_of_ble_eq_true rfl) ⟨rfl, rfl, Nat.le_of_ble_eq_true rfl, Nat.le_of_ble_eq_true rfl⟩ dX6_alike_51 (fun H locs B => ?_)
      refine lv_icmp_eq (tgt := 60) hx hb dX6_alike_54 (by decide) (fun q16 => ?_) (fun q16 => ?_)
      · have h := ip h q16
        obtain ⟨v5_17, q18, h⟩ := nm_o h
        refine lv_iinc (v := v5_17) (lv' := [(5, .int v5_17), (3, .ref (gad G 9)), (4, .int v4), (1, .int v1), (2, .int v2)]) hx hb dX6_alike_60 hl (k := 4) rfl q18.symm (by decide) rfl (fun ls hl => ?_)
        refine lv_goto (tgt := 33) hx hb dX6_alike_63 (by decide) ?_
        exact ih v5_17 e1 h hret hk H locs ls B (lv_sub hl [1, 2, 3, 4, 0] rfl)
      · have h := ig h q16
        refine lv_iload hx hb dX6_alike_57 (lv_at hl 4 rfl) ?_
        obtain rfl := ret1 h
        rw [hret _ rfl]
        exact r_iret C B hr rfl dX6_alike_59
set_option maxRecDepth 100000 in
set_option maxHeartbeats 4000000 in
theorem c_X6_alike (G : GT) (n : Nat) (s0 : ST) (v1 : Int32) (v2 : Int32) (r : Int32) (s' : ST) (h : X6_alike n s0 v1 v2 = some (r, s')) : Con G yX6_alike cX6_alike 6 (some .int) rm_X6_alike [.ref (gad G 0), .int v1, .int v2] (wX G s0) (some (.int r)) (wX G s') := by
  unfold X6_alike at h
  refine con_of (by decide +kernel) (Nat.le_of_ble_eq_true rfl) (fun {p e s m below meth c} C hr {H locs ls} B hl => ?_)
  have hx := C.1
  have hb := C.2.1
  have hl : lv_has ls 6 [(0, .ref (gad G 0)), (1, .int v1), (2, .int v2)] := hl
  refine lv_iload_n hx hb dX6_alike_0 rfl (lv_at hl 1 rfl) ?_
  obtain ⟨r1, q2, h⟩ := bd_o h
  refine r_callSi (rest := []) C B.2.2 hl (c_X6_isSide G v1 r1 q2) cs_X6_113 rfl rfl (Nat.le_of_ble_eq_true rfl) ⟨rfl, rfl, Nat.le_of_ble_eq_true rfl, Nat.le_of_ble_eq_true rfl⟩ dX6_alike_1 ?_
  refine lv_if_eq (tgt := 14) hx hb dX6_alike_4 (by decide) (fun q3 => ?_) (fun q3 => ?_)
  · have h := ip h q3
    refine lv_iconst (v := (-1 : Int32)) hx hb dX6_alike_14 rfl ?_
    obtain ⟨rfl, rfl⟩ := ret2 h
    exact r_iret C B hr rfl dX6_alike_15
  · have h := ig h q3
    refine lv_iload_n hx hb dX6_alike_7 rfl (lv_at hl 2 rfl) ?_
    obtain ⟨r4, q5, h⟩ := bd_o h
    refine r_callSi (rest := []) C B.2.2 hl (c_X6_isSide G v2 r4 q5) cs_X6_113 rfl rfl (Nat.le_of_ble_eq_true rfl) ⟨rfl, rfl, Nat.le_of_ble_eq_true rfl, Nat.le_of_ble_eq_true rfl⟩ dX6_alike_8 ?_
    refine lv_if_ne (tgt := 16) hx hb dX6_alike_11 (by decide) (fun q6 => ?_) (fun q6 => ?_)
    · have h := ig h q6
      refine lv_aload_n hx hb dX6_alike_16 rfl (lv_at hl 0 rfl) ?_
      obtain ⟨s8, q7, h⟩ := bd_o h
      refine r_callVa (rest := []) C B hl (c_X6_freshRanks G n s0 s8 q7) cs_X6_116 (cX_0 G s0) rfl rfl rfl (Nat.le_of_ble_eq_true rfl) ⟨rfl, rfl, Nat.le_of_ble_eq_true rfl, Nat.le_of_ble_eq_true rfl⟩ dX6_alike_17 (fun H locs B => ?_)
      refine lv_astore_n (lv' := [(3, .ref (gad G 9)), (0, .ref (gad G 0)), (1, .int v1), (2, .int v2)]) hx hb dX6_alike_20 rfl hl (by decide) rfl (fun ls hl => ?_)
      refine lv_aload_n hx hb dX6_alike_21 rfl (lv_at hl 1 rfl) ?_
      refine r_get C B fo_X6_10 (cX_0 G s8) rfl dX6_alike_22 ?_
      obtain ⟨r10, q9, h⟩ := bd_o h
      refine r_callVi (rest := []) C B hl (c_X4_all G s8 r10 q9) cs_X6_154 (cX_1 G s8) rfl rfl rfl (Nat.le_of_ble_eq_true rfl) ⟨rfl, rfl, Nat.le_of_ble_eq_true rfl, Nat.le_of_ble_eq_true rfl⟩ dX6_alike_25 (fun H locs B => ?_)
      refine lv_istore (lv' := [(4, .int r10), (3, .ref (gad G 9)), (0, .ref (gad G 0)), (1, .int v1), (2, .int v2)]) hx hb dX6_alike_28 hl (by decide) rfl (fun ls hl => ?_)
      refine lv_iconst (v := (0 : Int32)) hx hb dX6_alike_30 rfl ?_
      refine lv_istore (lv' := [(5, .int (0 : Int32)), (4, .int r10), (3, .ref (gad G 9)), (0, .ref (gad G 0)), (1, .int v1), (2, .int v2)]) hx hb dX6_alike_31 hl (by decide) rfl (fun ls hl => ?_)
      obtain ⟨e19, q20, h⟩ := bd_o h
      refine l_X6_alike_L1 C hr s8 r10 v1 v2 n (0 : Int32) e19 q20 (fun rv q => by have h := sm_l h q; cases h; rfl) (fun e21 q22 => ?_) H locs ls B (lv_sub hl [2, 1, 4, 5, 0] rfl)
      have h := sm_r h q22
      intro H locs ls B hl
      refine lv_bipush (v := (-5 : Int32)) hx hb dX6_alike_66 rfl ?_
      obtain ⟨rfl, rfl⟩ := ret2 h
      exact r_iret C B hr rfl dX6_alike_68
    · have h := ip h q6
      refine lv_iconst (v := (-1 : Int32)) hx hb dX6_alike_14 rfl ?_
      obtain ⟨rfl, rfl⟩ := ret2 h
      exact r_iret C B hr rfl dX6_alike_15
def rm_X4_reached : Room := { frames := 1, cells := 0, slots := 0, locals := 21 }
set_option maxRecDepth 100000 in
set_option maxHeartbeats 4000000 in
theorem l_X4_reached_L2 {G : GT} {p : Program} {e : Env} {s : State} {m : MethodId} {args : Array Value} {below : List Frame} {meth : Method} {c : Code} {Q : State → Prop} (C : CT G p s m meth c args cX4_reached 7 RX4) (hr : meth.sig.returnType = (some .int)) (s0 : ST) (v2 : Int32) (v4 : Int32) (v3 : Int32) : ∀ (k : Nat) (v6 : Int32) (v5 : Int32) (e1 : Int32), X4_reached_L2 s0 v2 v3 k v6 v5 = some e1 → Kn G p e rm_X4_reached s m args below meth c Q 7 64 [(0, .ref (gad G 1)), (2, .int v2), (4, .int v4), (3, .int v3), (5, .int e1)] (wX G s0) → Kn G p e rm_X4_reached s m args below meth c Q 7 24 [(0, .ref (gad G 1)), (2, .int v2), (4, .int v4), (3, .int v3), (6, .int v6), (5, .int v5)] (wX G s0) := by
  have hx := C.1
  have hb := C.2.1
  intro k
  induction k with
  | zero =>
    intro v6 v5 e1 h
    exact nso h
  | succ k ih =>
    intro v6 v5 e1 h hk H locs ls B hl
    have h : X4_reached_L2_b s0 v2 v3 (X4_reached_L2 s0 v2 v3 k) v6 v5 = some e1 := h
    unfold X4_reached_L2_b at h
    refine lv_iload hx hb dX4_reached_24 (lv_at hl 4 rfl) ?_
    refine lv_aload_n hx hb dX4_reached_26 rfl (lv_at hl 0 rfl) ?_
    refine r_get C B fo_X4_9 (cX_1 G s0) rfl dX4_reached_27 ?_
    refine lv_icmp_ge (tgt := 64) hx hb dX4_reached_30 (by decide) (fun q4 => ?_) (fun q4 => ?_)
    · have h := ip h q4
      obtain rfl := ret1 h
      exact hk H locs ls B (lv_sub hl [0, 1, 2, 3, 5] rfl)
    · have h := ig h q4
      refine lv_iload_n hx hb dX4_reached_33 rfl (lv_at hl 3 rfl) ?_
      refine lv_iload hx hb dX4_reached_34 (lv_at hl 4 rfl) ?_
      obtain ⟨r5, q6, h⟩ := bd_o h
      refine r_callSNi (rest := []) C B.2.2 hl (c_X6_has G v3 v6 r5 q6) cs_X4_50 rfl rfl (Nat.le_of_ble_eq_true rfl) ⟨rfl, rfl, Nat.le_of_ble_eq_true rfl, Nat.le_of_ble_eq_true rfl⟩ dX4_reached_36 ?_
      refine lv_if_eq (tgt := 58) hx hb dX4_reached_39 (by decide) (fun q7 => ?_) (fun q7 => ?_)
      · have h := ip h q7
        obtain ⟨v6_8, q9, h⟩ := nm_o h
        refine lv_iinc (v := v6_8) (lv' := [(6, .int v6_8), (0, .ref (gad G 1)), (2, .int v2), (4, .int v4), (3, .int v3), (5, .int v5)]) hx hb dX4_reached_58 hl (k := 4) rfl q9.symm (by decide) rfl (fun ls hl => ?_)
        refine lv_goto (tgt := 24) hx hb dX4_reached_61 (by decide) ?_
        exact ih v6_8 v5 e1 h hk H locs ls B (lv_sub hl [1, 2, 3, 4, 0, 5] rfl)
      · have h := ig h q7
        refine lv_iload hx hb dX4_reached_42 (lv_at hl 5 rfl) ?_
        refine lv_aload_n hx hb dX4_reached_44 rfl (lv_at hl 0 rfl) ?_
        refine r_get C B fo_X4_24 (cX_1 G s0) rfl dX4_reached_45 ?_
        refine lv_iload hx hb dX4_reached_48 (lv_at hl 4 rfl) ?_
        obtain ⟨q10, h⟩ := gd_o h
        refine r_iald C B (cX_2 G s0) (inb_vp q10) dX4_reached_50 ?_
        refine lv_iload_n hx hb dX4_reached_51 rfl (lv_at hl 1 rfl) ?_
        refine lv_iconst (v := (-1 : Int32)) hx hb dX4_reached_52 rfl ?_
        refine lv_ixor hx hb dX4_reached_53 ?_
        refine lv_iand hx hb dX4_reached_54 ?_
        refine lv_ior hx hb dX4_reached_55 ?_
        obtain ⟨v5_11, q12, h⟩ := nm_o h
        refine r_nm q12 ?_
        refine lv_istore (lv' := [(5, .int v5_11), (0, .ref (gad G 1)), (2, .int v2), (4, .int v4), (3, .int v3), (6, .int v6)]) hx hb dX4_reached_56 hl (by decide) rfl (fun ls hl => ?_)
        obtain ⟨v6_13, q14, h⟩ := nm_o h
        refine lv_iinc (v := v6_13) (lv' := [(6, .int v6_13), (5, .int v5_11), (0, .ref (gad G 1)), (2, .int v2), (4, .int v4), (3, .int v3)]) hx hb dX4_reached_58 hl (k := 5) rfl q14.symm (by decide) rfl (fun ls hl => ?_)
        refine lv_goto (tgt := 24) hx hb dX4_reached_61 (by decide) ?_
        exact ih v6_13 v5_11 e1 h hk H locs ls B (lv_sub hl [2, 3, 4, 5, 0, 1] rfl)
set_option maxRecDepth 100000 in
set_option maxHeartbeats 4000000 in
theorem l_X4_reached_L1 {G : GT} {p : Program} {e : Env} {s : State} {m : MethodId} {args : Array Value} {below : List Frame} {meth : Method} {c : Code} {Q : State → Prop} (C : CT G p s m meth c args cX4_reached 7 RX4) (hr : meth.sig.returnType = (some .int)) (n : Nat) (s0 : ST) (v2 : Int32) : ∀ (k : Nat) (v4 : Int32) (v3 : Int32) (e1 : Int32), X4_reached_L1 n s0 v2 k v4 v3 = some e1 → Kn G p e rm_X4_reached s m args below meth c Q 7 82 [(3, .int e1)] (wX G s0) → Kn G p e rm_X4_reached s m args below meth c Q 7 9 [(0, .ref (gad G 1)), (2, .int v2), (4, .int v4), (3, .int v3)] (wX G s0) := by
  have hx := C.1
  have hb := C.2.1
  intro k
  induction k with
  | zero =>
    intro v4 v3 e1 h
    exact nso h
  | succ k ih =>
    intro v4 v3 e1 h hk H locs ls B hl
    have h : X4_reached_L1_b n s0 v2 (X4_reached_L1 n s0 v2 k) v4 v3 = some e1 := h
    unfold X4_reached_L1_b at h
    refine lv_iload hx hb dX4_reached_9 (lv_at hl 2 rfl) ?_
    refine lv_aload_n hx hb dX4_reached_11 rfl (lv_at hl 0 rfl) ?_
    refine r_get C B fo_X4_9 (cX_1 G s0) rfl dX4_reached_12 ?_
    refine lv_icmp_ge (tgt := 82) hx hb dX4_reached_15 (by decide) (fun q3 => ?_) (fun q3 => ?_)
    · have h := ip h q3
      obtain rfl := ret1 h
      exact hk H locs ls B (lv_sub hl [3] rfl)
    · have h := ig h q3
      refine lv_iload_n hx hb dX4_reached_18 rfl (lv_at hl 3 rfl) ?_
      refine lv_istore (lv' := [(5, .int v3), (0, .ref (gad G 1)), (2, .int v2), (4, .int v4), (3, .int v3)]) hx hb dX4_reached_19 hl (by decide) rfl (fun ls hl => ?_)
      refine lv_iconst (v := (0 : Int32)) hx hb dX4_reached_21 rfl ?_
      refine lv_istore (lv' := [(6, .int (0 : Int32)), (5, .int v3), (0, .ref (gad G 1)), (2, .int v2), (4, .int v4), (3, .int v3)]) hx hb dX4_reached_22 hl (by decide) rfl (fun ls hl => ?_)
      obtain ⟨e15, q16, h⟩ := bd_o h
      refine l_X4_reached_L2 C hr s0 v2 v4 v3 n (0 : Int32) v3 e15 q16 ?_ H locs ls B (lv_sub hl [2, 3, 4, 5, 0, 1] rfl)
      intro H locs ls B hl
      refine lv_iload hx hb dX4_reached_64 (lv_at hl 4 rfl) ?_
      refine lv_iload_n hx hb dX4_reached_66 rfl (lv_at hl 3 rfl) ?_
      refine lv_icmp_ne (tgt := 73) hx hb dX4_reached_67 (by decide) (fun q17 => ?_) (fun q17 => ?_)
      · have h := ig h q17
        refine lv_iload hx hb dX4_reached_73 (lv_at hl 4 rfl) ?_
        refine lv_istore_n (lv' := [(3, .int e15), (0, .ref (gad G 1)), (2, .int v2), (4, .int v4), (5, .int e15)]) hx hb dX4_reached_75 rfl hl (by decide) rfl (fun ls hl => ?_)
        obtain ⟨v4_18, q19, h⟩ := nm_o h
        refine lv_iinc (v := v4_18) (lv' := [(4, .int v4_18), (3, .int e15), (0, .ref (gad G 1)), (2, .int v2), (5, .int e15)]) hx hb dX4_reached_76 hl (k := 3) rfl q19.symm (by decide) rfl (fun ls hl => ?_)
        refine lv_goto (tgt := 9) hx hb dX4_reached_79 (by decide) ?_
        exact ih v4_18 e15 e1 h hk H locs ls B (lv_sub hl [2, 3, 0, 1] rfl)
      · have h := ip h q17
        refine lv_goto (tgt := 82) hx hb dX4_reached_70 (by decide) ?_
        obtain rfl := ret1 h
        exact hk H locs ls B (lv_sub hl [3] rfl)
set_option maxRecDepth 100000 in
set_option maxHeartbeats 4000000 in
theorem c_X4_reached (G : GT) (n : Nat) (s0 : ST) (v1 : Int32) (v2 : Int32) (r : Int32) (h : X4_reached n s0 v1 v2 = some r) : Con G yX4_reached cX4_reached 7 (some .int) rm_X4_reached [.ref (gad G 1), .int v1, .int v2] (wX G s0) (some (.int r)) (wX G s0) := by
  unfold X4_reached at h
  refine con_of (by decide +kernel) (Nat.le_of_ble_eq_true rfl) (fun {p e s m below meth c} C hr {H locs ls} B hl => ?_)
  have hx := C.1
  have hb := C.2.1
  have hl : lv_has ls 7 [(0, .ref (gad G 1)), (1, .int v1), (2, .int v2)] := hl
  refine lv_iload_n hx hb dX4_reached_0 rfl (lv_at hl 1 rfl) ?_
  refine lv_iload_n hx hb dX4_reached_1 rfl (lv_at hl 2 rfl) ?_
  refine lv_iconst (v := (-1 : Int32)) hx hb dX4_reached_2 rfl ?_
  refine lv_ixor hx hb dX4_reached_3 ?_
  refine lv_iand hx hb dX4_reached_4 ?_
  obtain ⟨v3_1, q2, h⟩ := nm_o h
  refine r_nm q2 ?_
  refine lv_istore_n (lv' := [(3, .int v3_1), (0, .ref (gad G 1)), (1, .int v1), (2, .int v2)]) hx hb dX4_reached_5 rfl hl (by decide) rfl (fun ls hl => ?_)
  refine lv_iconst (v := (0 : Int32)) hx hb dX4_reached_6 rfl ?_
  refine lv_istore (lv' := [(4, .int (0 : Int32)), (3, .int v3_1), (0, .ref (gad G 1)), (1, .int v1), (2, .int v2)]) hx hb dX4_reached_7 hl (by decide) rfl (fun ls hl => ?_)
  obtain ⟨e20, q21, h⟩ := bd_o h
  refine l_X4_reached_L1 C hr n s0 v2 n (0 : Int32) v3_1 e20 q21 ?_ H locs ls B (lv_sub hl [2, 4, 0, 1] rfl)
  intro H locs ls B hl
  refine lv_iload_n hx hb dX4_reached_82 rfl (lv_at hl 0 rfl) ?_
  obtain rfl := ret1 h
  exact r_iret C B hr rfl dX4_reached_83
def rm_X4_isCut : Room := { frames := 2, cells := 0, slots := 0, locals := 47 }
set_option maxRecDepth 100000 in
set_option maxHeartbeats 4000000 in
theorem c_X4_isCut (G : GT) (n : Nat) (s0 : ST) (v1 : Int32) (v2 : Int32) (r : Int32) (h : X4_isCut n s0 v1 v2 = some r) : Con G yX4_isCut cX4_isCut 3 (some .boolean) rm_X4_isCut [.ref (gad G 1), .int v1, .int v2] (wX G s0) (some (.int r)) (wX G s0) := by
  unfold X4_isCut at h
  refine con_of (by decide +kernel) (Nat.le_of_ble_eq_true rfl) (fun {p e s m below meth c} C hr {H locs ls} B hl => ?_)
  have hx := C.1
  have hb := C.2.1
  have hl : lv_has ls 3 [(0, .ref (gad G 1)), (1, .int v1), (2, .int v2)] := hl
  refine lv_aload_n hx hb dX4_isCut_0 rfl (lv_at hl 0 rfl) ?_
  refine lv_iload_n hx hb dX4_isCut_1 rfl (lv_at hl 1 rfl) ?_
  refine lv_iload_n hx hb dX4_isCut_2 rfl (lv_at hl 2 rfl) ?_
  obtain ⟨r2, q1, h⟩ := bd_o h
  refine r_callVi (rest := []) C B hl (c_X4_reached G n s0 v1 v2 r2 q1) cs_X4_54 (cX_1 G s0) rfl rfl rfl (Nat.le_of_ble_eq_true rfl) ⟨rfl, rfl, Nat.le_of_ble_eq_true rfl, Nat.le_of_ble_eq_true rfl⟩ dX4_isCut_3 (fun H locs B => ?_)
  refine lv_aload_n hx hb dX4_isCut_6 rfl (lv_at hl 0 rfl) ?_
  refine r_get C B fo_X4_15 (cX_1 G s0) rfl dX4_isCut_7 ?_
  refine lv_iand hx hb dX4_isCut_10 ?_
  refine lv_if_ne (tgt := 18) hx hb dX4_isCut_11 (by decide) (fun q3 => ?_) (fun q3 => ?_)
  · have h := ig h q3
    refine lv_iconst (v := (0 : Int32)) hx hb dX4_isCut_18 rfl ?_
    obtain rfl := ret1 h
    exact r_iret C B hr nar_0 dX4_isCut_19
  · have h := ip h q3
    refine lv_iconst (v := (1 : Int32)) hx hb dX4_isCut_14 rfl ?_
    refine lv_goto (tgt := 19) hx hb dX4_isCut_15 (by decide) ?_
    obtain rfl := ret1 h
    exact r_iret C B hr nar_1 dX4_isCut_19
def rm_X6_cut : Room := { frames := 5, cells := 0, slots := 0, locals := 110 }
set_option maxRecDepth 100000 in
set_option maxHeartbeats 4000000 in
theorem l_X6_cut_L1 {G : GT} {p : Program} {e : Env} {s : State} {m : MethodId} {args : Array Value} {below : List Frame} {meth : Method} {c : Code} {Q : State → Prop} (C : CT G p s m meth c args cX6_cut 5 RX6) (hr : meth.sig.returnType = (some .int)) (n : Nat) (s0 : ST) (v3 : Int32) (v2 : Int32) (v1 : Int32) : ∀ (k : Nat) (v4 : Int32) (e1 : (Int32 × ST) ⊕ (Unit)), X6_cut_L1 n s0 v3 v2 v1 k v4 = some e1 → (∀ rv, e1 = Sum.inl rv → Q = QR G below args s (some (.int rv.1)) (wX G rv.2)) → (∀ ex, e1 = Sum.inr ex → Kn G p e rm_X6_cut s m args below meth c Q 5 72 [(3, .int v3)] (wX G s0)) → Kn G p e rm_X6_cut s m args below meth c Q 5 35 [(0, .ref (gad G 0)), (3, .int v3), (2, .int v2), (1, .int v1), (4, .int v4)] (wX G s0) := by
  have hx := C.1
  have hb := C.2.1
  intro k
  induction k with
  | zero =>
    intro v4 e1 h
    exact nso h
  | succ k ih =>
    intro v4 e1 h hret hk H locs ls B hl
    have h : X6_cut_L1_b n s0 v3 v2 v1 (X6_cut_L1 n s0 v3 v2 v1 k) v4 = some e1 := h
    unfold X6_cut_L1_b at h
    refine lv_iload hx hb dX6_cut_35 (lv_at hl 4 rfl) ?_
    refine lv_iload_n hx hb dX6_cut_37 rfl (lv_at hl 1 rfl) ?_
    refine lv_icmp_gt (tgt := 72) hx hb dX6_cut_38 (by decide) (fun q10 => ?_) (fun q10 => ?_)
    · have h := ip h q10
      obtain rfl := ret1 h
      exact hk _ rfl H locs ls B (lv_sub hl [1] rfl)
    · have h := ig h q10
      refine lv_iload hx hb dX6_cut_41 (lv_at hl 4 rfl) ?_
      obtain ⟨r11, q12, h⟩ := bd_o h
      refine r_callSi (rest := []) C B.2.2 hl (c_J6_bitCount G v4 r11 q12) cs_X6_164 rfl rfl (Nat.le_of_ble_eq_true rfl) ⟨rfl, rfl, Nat.le_of_ble_eq_true rfl, Nat.le_of_ble_eq_true rfl⟩ dX6_cut_43 ?_
      refine lv_iload_n hx hb dX6_cut_46 rfl (lv_at hl 2 rfl) ?_
      refine lv_icmp_ne (tgt := 66) hx hb dX6_cut_47 (by decide) (fun q13 => ?_) (fun q13 => ?_)
      · have h := ig h q13
        obtain ⟨v4_14, q15, h⟩ := nm_o h
        refine lv_iinc (v := v4_14) (lv' := [(4, .int v4_14), (0, .ref (gad G 0)), (3, .int v3), (2, .int v2), (1, .int v1)]) hx hb dX6_cut_66 hl (k := 4) rfl q15.symm (by decide) rfl (fun ls hl => ?_)
        refine lv_goto (tgt := 35) hx hb dX6_cut_69 (by decide) ?_
        exact ih v4_14 e1 h hret hk H locs ls B (lv_sub hl [1, 2, 3, 4, 0] rfl)
      · have h := ip h q13
        refine lv_aload_n hx hb dX6_cut_50 rfl (lv_at hl 0 rfl) ?_
        refine r_get C B fo_X6_10 (cX_0 G s0) rfl dX6_cut_51 ?_
        refine lv_iload_n hx hb dX6_cut_54 rfl (lv_at hl 3 rfl) ?_
        refine lv_iload hx hb dX6_cut_55 (lv_at hl 4 rfl) ?_
        obtain ⟨r17, q16, h⟩ := bd_o h
        refine r_callVi (rest := []) C B hl (c_X4_isCut G n s0 v1 v4 r17 q16) cs_X6_169 (cX_1 G s0) rfl rfl rfl (Nat.le_of_ble_eq_true rfl) ⟨rfl, rfl, Nat.le_of_ble_eq_true rfl, Nat.le_of_ble_eq_true rfl⟩ dX6_cut_57 (fun H locs B => ?_)
        refine lv_if_eq (tgt := 66) hx hb dX6_cut_60 (by decide) (fun q18 => ?_) (fun q18 => ?_)
        · have h := ip h q18
          obtain ⟨v4_19, q20, h⟩ := nm_o h
          refine lv_iinc (v := v4_19) (lv' := [(4, .int v4_19), (0, .ref (gad G 0)), (3, .int v3), (2, .int v2), (1, .int v1)]) hx hb dX6_cut_66 hl (k := 4) rfl q20.symm (by decide) rfl (fun ls hl => ?_)
          refine lv_goto (tgt := 35) hx hb dX6_cut_69 (by decide) ?_
          exact ih v4_19 e1 h hret hk H locs ls B (lv_sub hl [1, 2, 3, 4, 0] rfl)
        · have h := ig h q18
          refine lv_iload hx hb dX6_cut_63 (lv_at hl 4 rfl) ?_
          obtain rfl := ret1 h
          rw [hret _ rfl]
          exact r_iret C B hr rfl dX6_cut_65
set_option maxRecDepth 100000 in
set_option maxHeartbeats 4000000 in
theorem c_X6_cut (G : GT) (n : Nat) (s0 : ST) (v1 : Int32) (r : Int32) (s' : ST) (h : X6_cut n s0 v1 = some (r, s')) : Con G yX6_cut cX6_cut 5 (some .int) rm_X6_cut [.ref (gad G 0), .int v1] (wX G s0) (some (.int r)) (wX G s') := by
  unfold X6_cut at h
  refine con_of (by decide +kernel) (Nat.le_of_ble_eq_true rfl) (fun {p e s m below meth c} C hr {H locs ls} B hl => ?_)
  have hx := C.1
  have hb := C.2.1
  have hl : lv_has ls 5 [(0, .ref (gad G 0)), (1, .int v1)] := hl
  refine lv_aload_n hx hb dX6_cut_0 rfl (lv_at hl 0 rfl) ?_
  refine r_get C B fo_X6_10 (cX_0 G s0) rfl dX6_cut_1 ?_
  refine lv_iload_n hx hb dX6_cut_4 rfl (lv_at hl 1 rfl) ?_
  obtain ⟨r2, q1, h⟩ := bd_o h
  refine r_callVi (rest := []) C B hl (c_X4_isSet G s0 v1 r2 q1) cs_X6_79 (cX_1 G s0) rfl rfl rfl (Nat.le_of_ble_eq_true rfl) ⟨rfl, rfl, Nat.le_of_ble_eq_true rfl, Nat.le_of_ble_eq_true rfl⟩ dX6_cut_5 (fun H locs B => ?_)
  refine lv_if_ne (tgt := 14) hx hb dX6_cut_8 (by decide) (fun q3 => ?_) (fun q3 => ?_)
  · have h := ig h q3
    refine lv_aload_n hx hb dX6_cut_14 rfl (lv_at hl 0 rfl) ?_
    obtain ⟨s5, q4, h⟩ := bd_o h
    refine r_callVa (rest := []) C B hl (c_X6_freshRanks G n s0 s5 q4) cs_X6_116 (cX_0 G s0) rfl rfl rfl (Nat.le_of_ble_eq_true rfl) ⟨rfl, rfl, Nat.le_of_ble_eq_true rfl, Nat.le_of_ble_eq_true rfl⟩ dX6_cut_15 (fun H locs B => ?_)
    refine lv_iconst (v := (0 : Int32)) hx hb dX6_cut_18 rfl ?_
    refine lv_iload_n hx hb dX6_cut_19 rfl (lv_at hl 1 rfl) ?_
    obtain ⟨r7, q6, h⟩ := bd_o h
    refine r_callVi (rest := []) C B hl (c_X2_of G s5 (0 : Int32) v1 r7 q6) cs_X6_120 (cX_9 G s5) rfl rfl rfl (Nat.le_of_ble_eq_true rfl) ⟨rfl, rfl, Nat.le_of_ble_eq_true rfl, Nat.le_of_ble_eq_true rfl⟩ dX6_cut_20 (fun H locs B => ?_)
    refine lv_istore_n (lv' := [(2, .int r7), (0, .ref (gad G 0)), (1, .int v1)]) hx hb dX6_cut_23 rfl hl (by decide) rfl (fun ls hl => ?_)
    refine lv_aload_n hx hb dX6_cut_24 rfl (lv_at hl 1 rfl) ?_
    refine r_get C B fo_X6_10 (cX_0 G s5) rfl dX6_cut_25 ?_
    obtain ⟨r9, q8, h⟩ := bd_o h
    refine r_callVi (rest := []) C B hl (c_X4_all G s5 r9 q8) cs_X6_154 (cX_1 G s5) rfl rfl rfl (Nat.le_of_ble_eq_true rfl) ⟨rfl, rfl, Nat.le_of_ble_eq_true rfl, Nat.le_of_ble_eq_true rfl⟩ dX6_cut_28 (fun H locs B => ?_)
    refine lv_istore_n (lv' := [(3, .int r9), (2, .int r7), (0, .ref (gad G 0)), (1, .int v1)]) hx hb dX6_cut_31 rfl hl (by decide) rfl (fun ls hl => ?_)
    refine lv_iconst (v := (0 : Int32)) hx hb dX6_cut_32 rfl ?_
    refine lv_istore (lv' := [(4, .int (0 : Int32)), (3, .int r9), (2, .int r7), (0, .ref (gad G 0)), (1, .int v1)]) hx hb dX6_cut_33 hl (by decide) rfl (fun ls hl => ?_)
    obtain ⟨e21, q22, h⟩ := bd_o h
    refine l_X6_cut_L1 C hr n s5 r9 r7 v1 n (0 : Int32) e21 q22 (fun rv q => by have h := sm_l h q; cases h; rfl) (fun e23 q24 => ?_) H locs ls B (lv_sub hl [3, 1, 2, 4, 0] rfl)
    have h := sm_r h q24
    intro H locs ls B hl
    refine lv_iload_n hx hb dX6_cut_72 rfl (lv_at hl 0 rfl) ?_
    obtain ⟨rfl, rfl⟩ := ret2 h
    exact r_iret C B hr rfl dX6_cut_73
  · have h := ip h q3
    refine lv_bipush (v := (-2 : Int32)) hx hb dX6_cut_11 rfl ?_
    obtain ⟨rfl, rfl⟩ := ret2 h
    exact r_iret C B hr rfl dX6_cut_13
def rm_X6_reach : Room := { frames := 2, cells := 0, slots := 0, locals := 47 }
set_option maxRecDepth 100000 in
set_option maxHeartbeats 4000000 in
theorem c_X6_reach (G : GT) (n : Nat) (s0 : ST) (v1 : Int32) (r : Int32) (h : X6_reach n s0 v1 = some r) : Con G yX6_reach cX6_reach 2 (some .int) rm_X6_reach [.ref (gad G 0), .int v1] (wX G s0) (some (.int r)) (wX G s0) := by
  unfold X6_reach at h
  refine con_of (by decide +kernel) (Nat.le_of_ble_eq_true rfl) (fun {p e s m below meth c} C hr {H locs ls} B hl => ?_)
  have hx := C.1
  have hb := C.2.1
  have hl : lv_has ls 2 [(0, .ref (gad G 0)), (1, .int v1)] := hl
  refine lv_aload_n hx hb dX6_reach_0 rfl (lv_at hl 0 rfl) ?_
  refine r_get C B fo_X6_10 (cX_0 G s0) rfl dX6_reach_1 ?_
  refine lv_iload_n hx hb dX6_reach_4 rfl (lv_at hl 1 rfl) ?_
  obtain ⟨r2, q1, h⟩ := bd_o h
  refine r_callVi (rest := []) C B hl (c_X4_isSet G s0 v1 r2 q1) cs_X6_79 (cX_1 G s0) rfl rfl rfl (Nat.le_of_ble_eq_true rfl) ⟨rfl, rfl, Nat.le_of_ble_eq_true rfl, Nat.le_of_ble_eq_true rfl⟩ dX6_reach_5 (fun H locs B => ?_)
  refine lv_if_ne (tgt := 14) hx hb dX6_reach_8 (by decide) (fun q3 => ?_) (fun q3 => ?_)
  · have h := ig h q3
    refine lv_aload_n hx hb dX6_reach_14 rfl (lv_at hl 0 rfl) ?_
    refine r_get C B fo_X6_10 (cX_0 G s0) rfl dX6_reach_15 ?_
    refine lv_iload_n hx hb dX6_reach_18 rfl (lv_at hl 1 rfl) ?_
    refine lv_iconst (v := (0 : Int32)) hx hb dX6_reach_19 rfl ?_
    obtain ⟨r5, q4, h⟩ := bd_o h
    refine r_callVi (rest := []) C B hl (c_X4_reached G n s0 v1 (0 : Int32) r5 q4) cs_X6_172 (cX_1 G s0) rfl rfl rfl (Nat.le_of_ble_eq_true rfl) ⟨rfl, rfl, Nat.le_of_ble_eq_true rfl, Nat.le_of_ble_eq_true rfl⟩ dX6_reach_20 (fun H locs B => ?_)
    obtain rfl := ret1 h
    exact r_iret C B hr rfl dX6_reach_23
  · have h := ip h q3
    refine lv_bipush (v := (-2 : Int32)) hx hb dX6_reach_11 rfl ?_
    obtain rfl := ret1 h
    exact r_iret C B hr rfl dX6_reach_13
def rm_X0_begin : Room := { frames := 0, cells := 0, slots := 0, locals := 0 }
set_option maxRecDepth 100000 in
set_option maxHeartbeats 4000000 in
theorem c_X0_begin (G : GT) (s0 : ST)  (s' : ST) (h : X0_begin s0  = some s') : Con G yX0_begin cX0_begin 1 none rm_X0_begin [.ref (gad G 18)] (wX G s0) none (wX G s') := by
  unfold X0_begin at h
  refine con_of (by decide +kernel) (Nat.le_of_ble_eq_true rfl) (fun {p e s m below meth c} C hr {H locs ls} B hl => ?_)
  have hx := C.1
  have hb := C.2.1
  have hl : lv_has ls 1 [(0, .ref (gad G 18))] := hl
  refine lv_aload_n hx hb dX0_begin_0 rfl (lv_at hl 0 rfl) ?_
  refine lv_iconst (v := (0 : Int32)) hx hb dX0_begin_1 rfl ?_
  obtain ⟨s1, q2, h⟩ := nm_o h
  refine r_put C B fp_X0_9 (cX_18 G s0) (Nat.le_of_ble_eq_true rfl) rfl rfl ((uXs_10 G s0 _).trans (congrArg (wX G) q2.symm)) dX0_begin_2 (fun H locs B => ?_)
  obtain rfl := ret1 h
  exact r_vret C B hr dX0_begin_5
def rm_X4_setsWith : Room := { frames := 1, cells := 0, slots := 0, locals := 21 }
set_option maxRecDepth 100000 in
set_option maxHeartbeats 4000000 in
theorem l_X4_setsWith_L1 {G : GT} {p : Program} {e : Env} {s : State} {m : MethodId} {args : Array Value} {below : List Frame} {meth : Method} {c : Code} {Q : State → Prop} (C : CT G p s m meth c args cX4_setsWith 4 RX4) (hr : meth.sig.returnType = (some .int)) (s0 : ST) (v1 : Int32) : ∀ (k : Nat) (v3 : Int32) (v2 : Int32) (e1 : Int32), X4_setsWith_L1 s0 v1 k v3 v2 = some e1 → Kn G p e rm_X4_setsWith s m args below meth c Q 4 37 [(2, .int e1)] (wX G s0) → Kn G p e rm_X4_setsWith s m args below meth c Q 4 4 [(0, .ref (gad G 1)), (1, .int v1), (3, .int v3), (2, .int v2)] (wX G s0) := by
  have hx := C.1
  have hb := C.2.1
  intro k
  induction k with
  | zero =>
    intro v3 v2 e1 h
    exact nso h
  | succ k ih =>
    intro v3 v2 e1 h hk H locs ls B hl
    have h : X4_setsWith_L1_b s0 v1 (X4_setsWith_L1 s0 v1 k) v3 v2 = some e1 := h
    unfold X4_setsWith_L1_b at h
    refine lv_iload_n hx hb dX4_setsWith_4 rfl (lv_at hl 2 rfl) ?_
    refine lv_aload_n hx hb dX4_setsWith_5 rfl (lv_at hl 0 rfl) ?_
    refine r_get C B fo_X4_18 (cX_1 G s0) rfl dX4_setsWith_6 ?_
    refine lv_icmp_ge (tgt := 37) hx hb dX4_setsWith_9 (by decide) (fun q1 => ?_) (fun q1 => ?_)
    · have h := ip h q1
      obtain rfl := ret1 h
      exact hk H locs ls B (lv_sub hl [3] rfl)
    · have h := ig h q1
      refine lv_aload_n hx hb dX4_setsWith_12 rfl (lv_at hl 0 rfl) ?_
      refine r_get C B fo_X4_31 (cX_1 G s0) rfl dX4_setsWith_13 ?_
      refine lv_iload_n hx hb dX4_setsWith_16 rfl (lv_at hl 2 rfl) ?_
      obtain ⟨q2, h⟩ := gd_o h
      refine r_iald C B (cX_4 G s0) (inb_vp q2) dX4_setsWith_17 ?_
      refine lv_iload_n hx hb dX4_setsWith_18 rfl (lv_at hl 1 rfl) ?_
      obtain ⟨r3, q4, h⟩ := bd_o h
      refine r_callSNi (rest := []) C B.2.2 hl (c_X6_has G (s0.2.1 2 (v3).toNatClampNeg) v1 r3 q4) cs_X4_50 rfl rfl (Nat.le_of_ble_eq_true rfl) ⟨rfl, rfl, Nat.le_of_ble_eq_true rfl, Nat.le_of_ble_eq_true rfl⟩ dX4_setsWith_19 ?_
      refine lv_if_eq (tgt := 31) hx hb dX4_setsWith_22 (by decide) (fun q5 => ?_) (fun q5 => ?_)
      · have h := ip h q5
        obtain ⟨v3_6, q7, h⟩ := nm_o h
        refine lv_iinc (v := v3_6) (lv' := [(3, .int v3_6), (0, .ref (gad G 1)), (1, .int v1), (2, .int v2)]) hx hb dX4_setsWith_31 hl (k := 2) rfl q7.symm (by decide) rfl (fun ls hl => ?_)
        refine lv_goto (tgt := 4) hx hb dX4_setsWith_34 (by decide) ?_
        exact ih v3_6 v2 e1 h hk H locs ls B (lv_sub hl [1, 2, 0, 3] rfl)
      · have h := ig h q5
        refine lv_iload_n hx hb dX4_setsWith_25 rfl (lv_at hl 3 rfl) ?_
        refine lv_iconst (v := (1 : Int32)) hx hb dX4_setsWith_26 rfl ?_
        refine lv_iload_n hx hb dX4_setsWith_27 rfl (lv_at hl 2 rfl) ?_
        refine lv_ishl hx hb dX4_setsWith_28 ?_
        refine lv_ior hx hb dX4_setsWith_29 ?_
        obtain ⟨v2_8, q9, h⟩ := nm_o h
        refine r_nm q9 ?_
        refine lv_istore_n (lv' := [(2, .int v2_8), (0, .ref (gad G 1)), (1, .int v1), (3, .int v3)]) hx hb dX4_setsWith_30 rfl hl (by decide) rfl (fun ls hl => ?_)
        obtain ⟨v3_10, q11, h⟩ := nm_o h
        refine lv_iinc (v := v3_10) (lv' := [(3, .int v3_10), (2, .int v2_8), (0, .ref (gad G 1)), (1, .int v1)]) hx hb dX4_setsWith_31 hl (k := 3) rfl q11.symm (by decide) rfl (fun ls hl => ?_)
        refine lv_goto (tgt := 4) hx hb dX4_setsWith_34 (by decide) ?_
        exact ih v3_10 v2_8 e1 h hk H locs ls B (lv_sub hl [2, 3, 0, 1] rfl)
set_option maxRecDepth 100000 in
set_option maxHeartbeats 4000000 in
theorem c_X4_setsWith (G : GT) (n : Nat) (s0 : ST) (v1 : Int32) (r : Int32) (h : X4_setsWith n s0 v1 = some r) : Con G yX4_setsWith cX4_setsWith 4 (some .int) rm_X4_setsWith [.ref (gad G 1), .int v1] (wX G s0) (some (.int r)) (wX G s0) := by
  unfold X4_setsWith at h
  refine con_of (by decide +kernel) (Nat.le_of_ble_eq_true rfl) (fun {p e s m below meth c} C hr {H locs ls} B hl => ?_)
  have hx := C.1
  have hb := C.2.1
  have hl : lv_has ls 4 [(0, .ref (gad G 1)), (1, .int v1)] := hl
  refine lv_iconst (v := (0 : Int32)) hx hb dX4_setsWith_0 rfl ?_
  refine lv_istore_n (lv' := [(2, .int (0 : Int32)), (0, .ref (gad G 1)), (1, .int v1)]) hx hb dX4_setsWith_1 rfl hl (by decide) rfl (fun ls hl => ?_)
  refine lv_iconst (v := (0 : Int32)) hx hb dX4_setsWith_2 rfl ?_
  refine lv_istore_n (lv' := [(3, .int (0 : Int32)), (2, .int (0 : Int32)), (0, .ref (gad G 1)), (1, .int v1)]) hx hb dX4_setsWith_3 rfl hl (by decide) rfl (fun ls hl => ?_)
  obtain ⟨e12, q13, h⟩ := bd_o h
  refine l_X4_setsWith_L1 C hr s0 v1 n (0 : Int32) (0 : Int32) e12 q13 ?_ H locs ls B (lv_sub hl [2, 3, 0, 1] rfl)
  intro H locs ls B hl
  refine lv_iload_n hx hb dX4_setsWith_37 rfl (lv_at hl 0 rfl) ?_
  obtain rfl := ret1 h
  exact r_iret C B hr rfl dX4_setsWith_38
def rm_X0_ask : Room := { frames := 0, cells := 0, slots := 0, locals := 0 }
set_option maxRecDepth 100000 in
set_option maxHeartbeats 4000000 in
theorem c_X0_ask (G : GT) (s0 : ST) (v1 : Int32) (s' : ST) (h : X0_ask s0 v1 = some s') : Con G yX0_ask cX0_ask 2 none rm_X0_ask [.ref (gad G 18), .int v1] (wX G s0) none (wX G s') := by
  unfold X0_ask at h
  refine con_of (by decide +kernel) (Nat.le_of_ble_eq_true rfl) (fun {p e s m below meth c} C hr {H locs ls} B hl => ?_)
  have hx := C.1
  have hb := C.2.1
  have hl : lv_has ls 2 [(0, .ref (gad G 18)), (1, .int v1)] := hl
  refine lv_aload_n hx hb dX0_ask_0 rfl (lv_at hl 0 rfl) ?_
  refine r_get C B fo_X0_9 (cX_18 G s0) rfl dX0_ask_1 ?_
  refine lv_bipush (v := (8 : Int32)) hx hb dX0_ask_4 rfl ?_
  refine lv_icmp_lt (tgt := 10) hx hb dX0_ask_6 (by decide) (fun q1 => ?_) (fun q1 => ?_)
  · have h := ip h q1
    refine lv_aload_n hx hb dX0_ask_10 rfl (lv_at hl 0 rfl) ?_
    refine r_get C B fo_X0_19 (cX_18 G s0) rfl dX0_ask_11 ?_
    refine lv_aload_n hx hb dX0_ask_14 rfl (lv_at hl 0 rfl) ?_
    refine r_get C B fo_X0_9 (cX_18 G s0) rfl dX0_ask_15 ?_
    refine lv_iload_n hx hb dX0_ask_18 rfl (lv_at hl 1 rfl) ?_
    obtain ⟨q2, h⟩ := gd_o h
    obtain ⟨s3, q4, h⟩ := nm_o h
    refine r_iast C B (cX_20 G s0) (inb_vp q2) ((uXa_9 G s0 _).trans (congrArg (wX G) q4.symm)) dX0_ask_19 (fun H locs B => ?_)
    refine lv_aload_n hx hb dX0_ask_20 rfl (lv_at hl 0 rfl) ?_
    refine lv_dup hx hb dX0_ask_21 rfl ?_
    refine r_get C B fo_X0_9 (cX_18 G s3) rfl dX0_ask_22 ?_
    refine lv_iconst (v := (1 : Int32)) hx hb dX0_ask_25 rfl ?_
    refine lv_iadd hx hb dX0_ask_26 ?_
    obtain ⟨s5, q6, h⟩ := nm_o h
    refine r_put C B fp_X0_9 (cX_18 G s3) (Nat.le_of_ble_eq_true rfl) rfl rfl ((uXs_10 G s3 _).trans (congrArg (wX G) q6.symm)) dX0_ask_27 (fun H locs B => ?_)
    obtain rfl := ret1 h
    exact r_vret C B hr dX0_ask_30
  · have h := ig h q1
    obtain rfl := ret1 h
    exact r_vret C B hr dX0_ask_9
def rm_X0_leastOption : Room := { frames := 1, cells := 0, slots := 0, locals := 21 }
set_option maxRecDepth 100000 in
set_option maxHeartbeats 4000000 in
theorem l_X0_leastOption_L1 {G : GT} {p : Program} {e : Env} {s : State} {m : MethodId} {args : Array Value} {below : List Frame} {meth : Method} {c : Code} {Q : State → Prop} (C : CT G p s m meth c args cX0_leastOption 5 RX0) (hr : meth.sig.returnType = (some .int)) (s0 : ST) (v1 : Int32) (v2 : Int32) (v3 : Int32) : ∀ (k : Nat) (v4 : Int32) (e1 : (Int32) ⊕ (Unit)), X0_leastOption_L1 s0 v1 v2 v3 k v4 = some e1 → (∀ rv, e1 = Sum.inl rv → Q = QR G below args s (some (.int rv)) (wX G s0)) → (∀ ex, e1 = Sum.inr ex → Kn G p e rm_X0_leastOption s m args below meth c Q 5 50 [] (wX G s0)) → Kn G p e rm_X0_leastOption s m args below meth c Q 5 3 [(0, .ref (gad G 18)), (1, .int v1), (2, .int v2), (3, .int v3), (4, .int v4)] (wX G s0) := by
  have hx := C.1
  have hb := C.2.1
  intro k
  induction k with
  | zero =>
    intro v4 e1 h
    exact nso h
  | succ k ih =>
    intro v4 e1 h hret hk H locs ls B hl
    have h : X0_leastOption_L1_b s0 v1 v2 v3 (X0_leastOption_L1 s0 v1 v2 v3 k) v4 = some e1 := h
    unfold X0_leastOption_L1_b at h
    refine lv_iload hx hb dX0_leastOption_3 (lv_at hl 4 rfl) ?_
    refine lv_iload_n hx hb dX0_leastOption_5 rfl (lv_at hl 3 rfl) ?_
    refine lv_icmp_ge (tgt := 50) hx hb dX0_leastOption_6 (by decide) (fun q1 => ?_) (fun q1 => ?_)
    · have h := ip h q1
      obtain rfl := ret1 h
      exact hk _ rfl H locs ls B (lv_sub hl [] rfl)
    · have h := ig h q1
      refine lv_aload_n hx hb dX0_leastOption_9 rfl (lv_at hl 0 rfl) ?_
      refine r_get C B fo_X0_19 (cX_18 G s0) rfl dX0_leastOption_10 ?_
      refine lv_iload_n hx hb dX0_leastOption_13 rfl (lv_at hl 1 rfl) ?_
      obtain ⟨q2, h⟩ := gd_o h
      refine r_iald C B (cX_20 G s0) (inb_vp q2) dX0_leastOption_14 ?_
      refine lv_iload_n hx hb dX0_leastOption_15 rfl (lv_at hl 2 rfl) ?_
      refine lv_iconst (v := (-1 : Int32)) hx hb dX0_leastOption_16 rfl ?_
      refine lv_ixor hx hb dX0_leastOption_17 ?_
      refine lv_iand hx hb dX0_leastOption_18 ?_
      refine lv_iload hx hb dX0_leastOption_19 (lv_at hl 4 rfl) ?_
      obtain ⟨r3, q4, h⟩ := bd_o h
      refine r_callSNi (rest := []) C B.2.2 hl (c_X6_has G ((s0.2.1 9 (v1).toNatClampNeg) &&& (v2 ^^^ (-1 : Int32))) v4 r3 q4) cs_X0_36 rfl rfl (Nat.le_of_ble_eq_true rfl) ⟨rfl, rfl, Nat.le_of_ble_eq_true rfl, Nat.le_of_ble_eq_true rfl⟩ dX0_leastOption_21 ?_
      refine lv_if_eq (tgt := 44) hx hb dX0_leastOption_24 (by decide) (fun q5 => ?_) (fun q5 => ?_)
      · have h := ip h q5
        obtain ⟨v4_6, q7, h⟩ := nm_o h
        refine lv_iinc (v := v4_6) (lv' := [(4, .int v4_6), (0, .ref (gad G 18)), (1, .int v1), (2, .int v2), (3, .int v3)]) hx hb dX0_leastOption_44 hl (k := 4) rfl q7.symm (by decide) rfl (fun ls hl => ?_)
        refine lv_goto (tgt := 3) hx hb dX0_leastOption_47 (by decide) ?_
        exact ih v4_6 e1 h hret hk H locs ls B (lv_sub hl [1, 2, 3, 4, 0] rfl)
      · have h := ig h q5
        refine lv_aload_n hx hb dX0_leastOption_27 rfl (lv_at hl 0 rfl) ?_
        refine r_get C B fo_X0_22 (cX_18 G s0) rfl dX0_leastOption_28 ?_
        refine lv_iload_n hx hb dX0_leastOption_31 rfl (lv_at hl 2 rfl) ?_
        refine lv_iconst (v := (1 : Int32)) hx hb dX0_leastOption_32 rfl ?_
        refine lv_iload hx hb dX0_leastOption_33 (lv_at hl 4 rfl) ?_
        refine lv_ishl hx hb dX0_leastOption_35 ?_
        refine lv_ior hx hb dX0_leastOption_36 ?_
        obtain ⟨q8, h⟩ := gd_o h
        refine r_zald C B (cX_21 G s0) (inb_vp q8) dX0_leastOption_37 ?_
        refine lv_if_eq (tgt := 44) hx hb dX0_leastOption_38 (by decide) (fun q9 => ?_) (fun q9 => ?_)
        · have h := ip h q9
          obtain ⟨v4_10, q11, h⟩ := nm_o h
          refine lv_iinc (v := v4_10) (lv' := [(4, .int v4_10), (0, .ref (gad G 18)), (1, .int v1), (2, .int v2), (3, .int v3)]) hx hb dX0_leastOption_44 hl (k := 4) rfl q11.symm (by decide) rfl (fun ls hl => ?_)
          refine lv_goto (tgt := 3) hx hb dX0_leastOption_47 (by decide) ?_
          exact ih v4_10 e1 h hret hk H locs ls B (lv_sub hl [1, 2, 3, 4, 0] rfl)
        · have h := ig h q9
          refine lv_iload hx hb dX0_leastOption_41 (lv_at hl 4 rfl) ?_
          obtain rfl := ret1 h
          rw [hret _ rfl]
          exact r_iret C B hr rfl dX0_leastOption_43
set_option maxRecDepth 100000 in
set_option maxHeartbeats 4000000 in
theorem c_X0_leastOption (G : GT) (n : Nat) (s0 : ST) (v1 : Int32) (v2 : Int32) (v3 : Int32) (r : Int32) (h : X0_leastOption n s0 v1 v2 v3 = some r) : Con G yX0_leastOption cX0_leastOption 5 (some .int) rm_X0_leastOption [.ref (gad G 18), .int v1, .int v2, .int v3] (wX G s0) (some (.int r)) (wX G s0) := by
  unfold X0_leastOption at h
  refine con_of (by decide +kernel) (Nat.le_of_ble_eq_true rfl) (fun {p e s m below meth c} C hr {H locs ls} B hl => ?_)
  have hx := C.1
  have hb := C.2.1
  have hl : lv_has ls 5 [(0, .ref (gad G 18)), (1, .int v1), (2, .int v2), (3, .int v3)] := hl
  refine lv_iconst (v := (0 : Int32)) hx hb dX0_leastOption_0 rfl ?_
  refine lv_istore (lv' := [(4, .int (0 : Int32)), (0, .ref (gad G 18)), (1, .int v1), (2, .int v2), (3, .int v3)]) hx hb dX0_leastOption_1 hl (by decide) rfl (fun ls hl => ?_)
  obtain ⟨e12, q13, h⟩ := bd_o h
  refine l_X0_leastOption_L1 C hr s0 v1 v2 v3 n (0 : Int32) e12 q13 (fun rv q => by have h := sm_l h q; cases h; rfl) (fun e14 q15 => ?_) H locs ls B (lv_sub hl [1, 2, 3, 4, 0] rfl)
  have h := sm_r h q15
  intro H locs ls B hl
  refine lv_iconst (v := (-1 : Int32)) hx hb dX0_leastOption_50 rfl ?_
  obtain rfl := ret1 h
  exact r_iret C B hr rfl dX0_leastOption_51
def rm_X0_isMade : Room := { frames := 2, cells := 0, slots := 0, locals := 45 }
set_option maxRecDepth 100000 in
set_option maxHeartbeats 4000000 in
theorem l_X0_isMade_L1 {G : GT} {p : Program} {e : Env} {s : State} {m : MethodId} {args : Array Value} {below : List Frame} {meth : Method} {c : Code} {Q : State → Prop} (C : CT G p s m meth c args cX0_isMade 5 RX0) (hr : meth.sig.returnType = (some .boolean)) (n : Nat) (v1 : Int32) : ∀ (k : Nat) (v2 : Int32) (s0 : ST) (e1 : ST), X0_isMade_L1 n v1 k v2 s0 = some e1 → Kn G p e rm_X0_isMade s m args below meth c Q 5 51 [(0, .ref (gad G 18)), (1, .int v1)] (wX G e1) → Kn G p e rm_X0_isMade s m args below meth c Q 5 6 [(0, .ref (gad G 18)), (1, .int v1), (2, .int v2)] (wX G s0) := by
  have hx := C.1
  have hb := C.2.1
  intro k
  induction k with
  | zero =>
    intro v2 s0 e1 h
    exact nso h
  | succ k ih =>
    intro v2 s0 e1 h hk H locs ls B hl
    have h : X0_isMade_L1_b n v1 (X0_isMade_L1 n v1 k) v2 s0 = some e1 := h
    unfold X0_isMade_L1_b at h
    refine lv_iload_n hx hb dX0_isMade_6 rfl (lv_at hl 2 rfl) ?_
    refine lv_if_lt (tgt := 51) hx hb dX0_isMade_7 (by decide) (fun q3 => ?_) (fun q3 => ?_)
    · have h := ip h q3
      obtain rfl := ret1 h
      exact hk H locs ls B (lv_sub hl [0, 1] rfl)
    · have h := ig h q3
      refine lv_iload_n hx hb dX0_isMade_10 rfl (lv_at hl 2 rfl) ?_
      obtain ⟨r4, q5, h⟩ := bd_o h
      refine r_callSi (rest := []) C B.2.2 hl (c_J6_bitCount G v2 r4 q5) cs_X0_26 rfl rfl (Nat.le_of_ble_eq_true rfl) ⟨rfl, rfl, Nat.le_of_ble_eq_true rfl, Nat.le_of_ble_eq_true rfl⟩ dX0_isMade_11 ?_
      refine lv_istore_n (lv' := [(3, .int r4), (0, .ref (gad G 18)), (1, .int v1), (2, .int v2)]) hx hb dX0_isMade_14 rfl hl (by decide) rfl (fun ls hl => ?_)
      refine lv_aload_n hx hb dX0_isMade_15 rfl (lv_at hl 1 rfl) ?_
      refine r_get C B fo_X0_22 (cX_18 G s0) rfl dX0_isMade_16 ?_
      refine lv_iload_n hx hb dX0_isMade_19 rfl (lv_at hl 3 rfl) ?_
      refine lv_iload_n hx hb dX0_isMade_20 rfl (lv_at hl 0 rfl) ?_
      refine lv_aload_n hx hb dX0_isMade_21 rfl (lv_at hl 1 rfl) ?_
      refine r_get C B fo_X0_9 (cX_18 G s0) rfl dX0_isMade_22 ?_
      refine lv_icmp_ge (tgt := 39) hx hb dX0_isMade_25 (by decide) (fun q6 => ?_) (fun q6 => ?_)
      · have h := ip h q6
        refine lv_iconst (v := (1 : Int32)) hx hb dX0_isMade_39 rfl ?_
        refine lv_goto (tgt := 44) hx hb dX0_isMade_40 (by decide) ?_
        obtain ⟨q7, h⟩ := gd_o h
        obtain ⟨q10, h⟩ := gd_o h
        obtain ⟨s8, q9, h⟩ := nm_o h
        refine r_zast C B (cX_21 G s0) (inb_vp q7) q10 ((uXa_10 G s0 _).trans (congrArg (wX G) q9.symm)) dX0_isMade_44 (fun H locs B => ?_)
        obtain ⟨v2_11, q12, h⟩ := nm_o h
        refine lv_iinc (v := v2_11) (lv' := [(2, .int v2_11), (3, .int r4), (0, .ref (gad G 18)), (1, .int v1)]) hx hb dX0_isMade_45 hl (k := 3) rfl q12.symm (by decide) rfl (fun ls hl => ?_)
        refine lv_goto (tgt := 6) hx hb dX0_isMade_48 (by decide) ?_
        exact ih v2_11 s8 e1 h hk H locs ls B (lv_sub hl [2, 3, 0] rfl)
      · have h := ig h q6
        refine lv_aload_n hx hb dX0_isMade_28 rfl (lv_at hl 1 rfl) ?_
        refine lv_iload_n hx hb dX0_isMade_29 rfl (lv_at hl 0 rfl) ?_
        refine lv_iload_n hx hb dX0_isMade_30 rfl (lv_at hl 3 rfl) ?_
        refine lv_iload_n hx hb dX0_isMade_31 rfl (lv_at hl 2 rfl) ?_
        obtain ⟨r14, q13, h⟩ := bd_o h
        refine r_callVi (rest := [.int v2, .ref (gad G 21)]) C B hl (c_X0_leastOption G n s0 r4 v2 v1 r14 q13) cs_X0_32 (cX_18 G s0) rfl rfl rfl (Nat.le_of_ble_eq_true rfl) ⟨rfl, rfl, Nat.le_of_ble_eq_true rfl, Nat.le_of_ble_eq_true rfl⟩ dX0_isMade_32 (fun H locs B => ?_)
        refine lv_iconst (v := (-1 : Int32)) hx hb dX0_isMade_35 rfl ?_
        refine lv_icmp_eq (tgt := 43) hx hb dX0_isMade_36 (by decide) (fun q15 => ?_) (fun q15 => ?_)
        · have h := ip h q15
          refine lv_iconst (v := (0 : Int32)) hx hb dX0_isMade_43 rfl ?_
          obtain ⟨q16, h⟩ := gd_o h
          obtain ⟨q19, h⟩ := gd_o h
          obtain ⟨s17, q18, h⟩ := nm_o h
          refine r_zast C B (cX_21 G s0) (inb_vp q16) q19 ((uXa_10 G s0 _).trans (congrArg (wX G) q18.symm)) dX0_isMade_44 (fun H locs B => ?_)
          obtain ⟨v2_20, q21, h⟩ := nm_o h
          refine lv_iinc (v := v2_20) (lv' := [(2, .int v2_20), (3, .int r4), (0, .ref (gad G 18)), (1, .int v1)]) hx hb dX0_isMade_45 hl (k := 3) rfl q21.symm (by decide) rfl (fun ls hl => ?_)
          refine lv_goto (tgt := 6) hx hb dX0_isMade_48 (by decide) ?_
          exact ih v2_20 s17 e1 h hk H locs ls B (lv_sub hl [2, 3, 0] rfl)
        · have h := ig h q15
          refine lv_iconst (v := (1 : Int32)) hx hb dX0_isMade_39 rfl ?_
          refine lv_goto (tgt := 44) hx hb dX0_isMade_40 (by decide) ?_
          obtain ⟨q22, h⟩ := gd_o h
          obtain ⟨q25, h⟩ := gd_o h
          obtain ⟨s23, q24, h⟩ := nm_o h
          refine r_zast C B (cX_21 G s0) (inb_vp q22) q25 ((uXa_10 G s0 _).trans (congrArg (wX G) q24.symm)) dX0_isMade_44 (fun H locs B => ?_)
          obtain ⟨v2_26, q27, h⟩ := nm_o h
          refine lv_iinc (v := v2_26) (lv' := [(2, .int v2_26), (3, .int r4), (0, .ref (gad G 18)), (1, .int v1)]) hx hb dX0_isMade_45 hl (k := 3) rfl q27.symm (by decide) rfl (fun ls hl => ?_)
          refine lv_goto (tgt := 6) hx hb dX0_isMade_48 (by decide) ?_
          exact ih v2_26 s23 e1 h hk H locs ls B (lv_sub hl [2, 3, 0] rfl)
set_option maxRecDepth 100000 in
set_option maxHeartbeats 4000000 in
theorem l_X0_isMade_L2 {G : GT} {p : Program} {e : Env} {s : State} {m : MethodId} {args : Array Value} {below : List Frame} {meth : Method} {c : Code} {Q : State → Prop} (C : CT G p s m meth c args cX0_isMade 5 RX0) (hr : meth.sig.returnType = (some .boolean)) (n : Nat) (v1 : Int32) : ∀ (k : Nat) (v3 : Int32) (v2 : Int32) (s0 : ST) (e1 : (Int32 × ST) ⊕ (ST)), X0_isMade_L2 n v1 k v3 v2 s0 = some e1 → (∀ rv, e1 = Sum.inl rv → Q = QR G below args s (some (.int rv.1)) (wX G rv.2)) → (∀ ex, e1 = Sum.inr ex → Kn G p e rm_X0_isMade s m args below meth c Q 5 112 [] (wX G ex)) → Kn G p e rm_X0_isMade s m args below meth c Q 5 66 [(0, .ref (gad G 18)), (1, .int v1), (3, .int v3), (2, .int v2)] (wX G s0) := by
  have hx := C.1
  have hb := C.2.1
  intro k
  induction k with
  | zero =>
    intro v3 v2 s0 e1 h
    exact nso h
  | succ k ih =>
    intro v3 v2 s0 e1 h hret hk H locs ls B hl
    have h : X0_isMade_L2_b n v1 (X0_isMade_L2 n v1 k) v3 v2 s0 = some e1 := h
    unfold X0_isMade_L2_b at h
    refine lv_iload_n hx hb dX0_isMade_66 rfl (lv_at hl 2 rfl) ?_
    refine lv_aload_n hx hb dX0_isMade_67 rfl (lv_at hl 0 rfl) ?_
    refine r_get C B fo_X0_9 (cX_18 G s0) rfl dX0_isMade_68 ?_
    refine lv_icmp_ge (tgt := 112) hx hb dX0_isMade_71 (by decide) (fun q32 => ?_) (fun q32 => ?_)
    · have h := ip h q32
      obtain rfl := ret1 h
      exact hk _ rfl H locs ls B (lv_sub hl [] rfl)
    · have h := ig h q32
      refine lv_aload_n hx hb dX0_isMade_74 rfl (lv_at hl 0 rfl) ?_
      refine lv_iload_n hx hb dX0_isMade_75 rfl (lv_at hl 2 rfl) ?_
      refine lv_iload_n hx hb dX0_isMade_76 rfl (lv_at hl 3 rfl) ?_
      refine lv_iload_n hx hb dX0_isMade_77 rfl (lv_at hl 1 rfl) ?_
      obtain ⟨r34, q33, h⟩ := bd_o h
      refine r_callVi (rest := []) C B hl (c_X0_leastOption G n s0 v3 v2 v1 r34 q33) cs_X0_32 (cX_18 G s0) rfl rfl rfl (Nat.le_of_ble_eq_true rfl) ⟨rfl, rfl, Nat.le_of_ble_eq_true rfl, Nat.le_of_ble_eq_true rfl⟩ dX0_isMade_78 (fun H locs B => ?_)
      refine lv_istore (lv' := [(4, .int r34), (0, .ref (gad G 18)), (1, .int v1), (3, .int v3), (2, .int v2)]) hx hb dX0_isMade_81 hl (by decide) rfl (fun ls hl => ?_)
      refine lv_iload hx hb dX0_isMade_83 (lv_at hl 0 rfl) ?_
      refine lv_iconst (v := (-1 : Int32)) hx hb dX0_isMade_85 rfl ?_
      refine lv_icmp_ne (tgt := 91) hx hb dX0_isMade_86 (by decide) (fun q35 => ?_) (fun q35 => ?_)
      · have h := ig h q35
        refine lv_aload_n hx hb dX0_isMade_91 rfl (lv_at hl 1 rfl) ?_
        refine r_get C B fo_X0_15 (cX_18 G s0) rfl dX0_isMade_92 ?_
        refine lv_iload_n hx hb dX0_isMade_95 rfl (lv_at hl 3 rfl) ?_
        refine lv_iload hx hb dX0_isMade_96 (lv_at hl 0 rfl) ?_
        obtain ⟨q36, h⟩ := gd_o h
        obtain ⟨s37, q38, h⟩ := nm_o h
        refine r_iast C B (cX_19 G s0) (inb_vp q36) ((uXa_8 G s0 _).trans (congrArg (wX G) q38.symm)) dX0_isMade_98 (fun H locs B => ?_)
        refine lv_iload_n hx hb dX0_isMade_99 rfl (lv_at hl 4 rfl) ?_
        refine lv_iconst (v := (1 : Int32)) hx hb dX0_isMade_100 rfl ?_
        refine lv_iload hx hb dX0_isMade_101 (lv_at hl 0 rfl) ?_
        refine lv_ishl hx hb dX0_isMade_103 ?_
        refine lv_ior hx hb dX0_isMade_104 ?_
        obtain ⟨v2_39, q40, h⟩ := nm_o h
        refine r_nm q40 ?_
        refine lv_istore_n (lv' := [(2, .int v2_39), (4, .int r34), (0, .ref (gad G 18)), (1, .int v1), (3, .int v3)]) hx hb dX0_isMade_105 rfl hl (by decide) rfl (fun ls hl => ?_)
        obtain ⟨v3_41, q42, h⟩ := nm_o h
        refine lv_iinc (v := v3_41) (lv' := [(3, .int v3_41), (2, .int v2_39), (4, .int r34), (0, .ref (gad G 18)), (1, .int v1)]) hx hb dX0_isMade_106 hl (k := 4) rfl q42.symm (by decide) rfl (fun ls hl => ?_)
        refine lv_goto (tgt := 66) hx hb dX0_isMade_109 (by decide) ?_
        exact ih v3_41 v2_39 s37 e1 h hret hk H locs ls B (lv_sub hl [3, 4, 0, 1] rfl)
      · have h := ip h q35
        refine lv_iconst (v := (0 : Int32)) hx hb dX0_isMade_89 rfl ?_
        obtain rfl := ret1 h
        rw [hret _ rfl]
        exact r_iret C B hr nar_0 dX0_isMade_90
set_option maxRecDepth 100000 in
set_option maxHeartbeats 4000000 in
theorem c_X0_isMade (G : GT) (n : Nat) (s0 : ST) (v1 : Int32) (r : Int32) (s' : ST) (h : X0_isMade n s0 v1 = some (r, s')) : Con G yX0_isMade cX0_isMade 5 (some .boolean) rm_X0_isMade [.ref (gad G 18), .int v1] (wX G s0) (some (.int r)) (wX G s') := by
  unfold X0_isMade at h
  refine con_of (by decide +kernel) (Nat.le_of_ble_eq_true rfl) (fun {p e s m below meth c} C hr {H locs ls} B hl => ?_)
  have hx := C.1
  have hb := C.2.1
  have hl : lv_has ls 5 [(0, .ref (gad G 18)), (1, .int v1)] := hl
  refine lv_iconst (v := (1 : Int32)) hx hb dX0_isMade_0 rfl ?_
  refine lv_iload_n hx hb dX0_isMade_1 rfl (lv_at hl 1 rfl) ?_
  refine lv_ishl hx hb dX0_isMade_2 ?_
  refine lv_iconst (v := (1 : Int32)) hx hb dX0_isMade_3 rfl ?_
  refine lv_isub hx hb dX0_isMade_4 ?_
  obtain ⟨v2_1, q2, h⟩ := nm_o h
  refine r_nm q2 ?_
  refine lv_istore_n (lv' := [(2, .int v2_1), (0, .ref (gad G 18)), (1, .int v1)]) hx hb dX0_isMade_5 rfl hl (by decide) rfl (fun ls hl => ?_)
  obtain ⟨e28, q29, h⟩ := bd_o h
  refine l_X0_isMade_L1 C hr n v1 n v2_1 s0 e28 q29 ?_ H locs ls B (lv_sub hl [1, 2, 0] rfl)
  intro H locs ls B hl
  refine lv_aload_n hx hb dX0_isMade_51 rfl (lv_at hl 0 rfl) ?_
  refine r_get C B fo_X0_22 (cX_18 G e28) rfl dX0_isMade_52 ?_
  refine lv_iconst (v := (0 : Int32)) hx hb dX0_isMade_55 rfl ?_
  obtain ⟨q30, h⟩ := gd_o h
  refine r_zald C B (cX_21 G e28) (inb_vp q30) dX0_isMade_56 ?_
  refine lv_if_ne (tgt := 62) hx hb dX0_isMade_57 (by decide) (fun q31 => ?_) (fun q31 => ?_)
  · have h := ig h q31
    refine lv_iconst (v := (0 : Int32)) hx hb dX0_isMade_62 rfl ?_
    refine lv_istore_n (lv' := [(2, .int (0 : Int32)), (0, .ref (gad G 18)), (1, .int v1)]) hx hb dX0_isMade_63 rfl hl (by decide) rfl (fun ls hl => ?_)
    refine lv_iconst (v := (0 : Int32)) hx hb dX0_isMade_64 rfl ?_
    refine lv_istore_n (lv' := [(3, .int (0 : Int32)), (2, .int (0 : Int32)), (0, .ref (gad G 18)), (1, .int v1)]) hx hb dX0_isMade_65 rfl hl (by decide) rfl (fun ls hl => ?_)
    obtain ⟨e43, q44, h⟩ := bd_o h
    refine l_X0_isMade_L2 C hr n v1 n (0 : Int32) (0 : Int32) e28 e43 q44 (fun rv q => by have h := sm_l h q; cases h; rfl) (fun e45 q46 => ?_) H locs ls B (lv_sub hl [2, 3, 0, 1] rfl)
    have h := sm_r h q46
    intro H locs ls B hl
    refine lv_iconst (v := (1 : Int32)) hx hb dX0_isMade_112 rfl ?_
    obtain ⟨rfl, rfl⟩ := ret2 h
    exact r_iret C B hr nar_1 dX0_isMade_113
  · have h := ip h q31
    refine lv_iconst (v := (0 : Int32)) hx hb dX0_isMade_60 rfl ?_
    obtain ⟨rfl, rfl⟩ := ret2 h
    exact r_iret C B hr nar_0 dX0_isMade_61
def rm_X6_partners : Room := { frames := 3, cells := 0, slots := 0, locals := 69 }
set_option maxRecDepth 100000 in
set_option maxHeartbeats 4000000 in
theorem l_X6_partners_L1 {G : GT} {p : Program} {e : Env} {s : State} {m : MethodId} {args : Array Value} {below : List Frame} {meth : Method} {c : Code} {Q : State → Prop} (C : CT G p s m meth c args cX6_partners 4 RX6) (hr : meth.sig.returnType = (some .int)) (n : Nat) (v1 : Int32) : ∀ (k : Nat) (v2 : Int32) (s0 : ST) (e1 : ST), X6_partners_L1 n v1 k v2 s0 = some e1 → Kn G p e rm_X6_partners s m args below meth c Q 4 63 [(0, .ref (gad G 0))] (wX G e1) → Kn G p e rm_X6_partners s m args below meth c Q 4 23 [(0, .ref (gad G 0)), (1, .int v1), (2, .int v2)] (wX G s0) := by
  have hx := C.1
  have hb := C.2.1
  intro k
  induction k with
  | zero =>
    intro v2 s0 e1 h
    exact nso h
  | succ k ih =>
    intro v2 s0 e1 h hk H locs ls B hl
    have h : X6_partners_L1_b n v1 (X6_partners_L1 n v1 k) v2 s0 = some e1 := h
    unfold X6_partners_L1_b at h
    refine lv_iload_n hx hb dX6_partners_23 rfl (lv_at hl 2 rfl) ?_
    refine lv_aload_n hx hb dX6_partners_24 rfl (lv_at hl 0 rfl) ?_
    refine r_get C B fo_X6_10 (cX_0 G s0) rfl dX6_partners_25 ?_
    refine r_get C B fo_X6_60 (cX_1 G s0) rfl dX6_partners_28 ?_
    refine lv_icmp_ge (tgt := 63) hx hb dX6_partners_31 (by decide) (fun q6 => ?_) (fun q6 => ?_)
    · have h := ip h q6
      obtain rfl := ret1 h
      exact hk H locs ls B (lv_sub hl [0] rfl)
    · have h := ig h q6
      refine lv_iload_n hx hb dX6_partners_34 rfl (lv_at hl 1 rfl) ?_
      refine lv_iload_n hx hb dX6_partners_35 rfl (lv_at hl 2 rfl) ?_
      obtain ⟨r7, q8, h⟩ := bd_o h
      refine r_callSi (rest := []) C B.2.2 hl (c_X6_has G v1 v2 r7 q8) cs_X6_145 rfl rfl (Nat.le_of_ble_eq_true rfl) ⟨rfl, rfl, Nat.le_of_ble_eq_true rfl, Nat.le_of_ble_eq_true rfl⟩ dX6_partners_36 ?_
      refine lv_if_eq (tgt := 57) hx hb dX6_partners_39 (by decide) (fun q9 => ?_) (fun q9 => ?_)
      · have h := ip h q9
        obtain ⟨v2_10, q11, h⟩ := nm_o h
        refine lv_iinc (v := v2_10) (lv' := [(2, .int v2_10), (0, .ref (gad G 0)), (1, .int v1)]) hx hb dX6_partners_57 hl (k := 2) rfl q11.symm (by decide) rfl (fun ls hl => ?_)
        refine lv_goto (tgt := 23) hx hb dX6_partners_60 (by decide) ?_
        exact ih v2_10 s0 e1 h hk H locs ls B (lv_sub hl [1, 2, 0] rfl)
      · have h := ig h q9
        refine lv_aload_n hx hb dX6_partners_42 rfl (lv_at hl 0 rfl) ?_
        refine r_get C B fo_X6_33 (cX_0 G s0) rfl dX6_partners_43 ?_
        refine lv_aload_n hx hb dX6_partners_46 rfl (lv_at hl 0 rfl) ?_
        refine r_get C B fo_X6_10 (cX_0 G s0) rfl dX6_partners_47 ?_
        refine lv_iload_n hx hb dX6_partners_50 rfl (lv_at hl 2 rfl) ?_
        obtain ⟨r13, q12, h⟩ := bd_o h
        refine r_callVi (rest := [.ref (gad G 18)]) C B hl (c_X4_setsWith G n s0 v2 r13 q12) cs_X6_177 (cX_1 G s0) rfl rfl rfl (Nat.le_of_ble_eq_true rfl) ⟨rfl, rfl, Nat.le_of_ble_eq_true rfl, Nat.le_of_ble_eq_true rfl⟩ dX6_partners_51 (fun H locs B => ?_)
        obtain ⟨s15, q14, h⟩ := bd_o h
        refine r_callVv (rest := []) C B hl (c_X0_ask G s0 r13 s15 q14) cs_X6_180 (cX_18 G s0) rfl rfl rfl (Nat.le_of_ble_eq_true rfl) ⟨rfl, rfl, Nat.le_of_ble_eq_true rfl, Nat.le_of_ble_eq_true rfl⟩ dX6_partners_54 (fun H locs B => ?_)
        obtain ⟨v2_16, q17, h⟩ := nm_o h
        refine lv_iinc (v := v2_16) (lv' := [(2, .int v2_16), (0, .ref (gad G 0)), (1, .int v1)]) hx hb dX6_partners_57 hl (k := 2) rfl q17.symm (by decide) rfl (fun ls hl => ?_)
        refine lv_goto (tgt := 23) hx hb dX6_partners_60 (by decide) ?_
        exact ih v2_16 s15 e1 h hk H locs ls B (lv_sub hl [1, 2, 0] rfl)
set_option maxRecDepth 100000 in
set_option maxHeartbeats 4000000 in
theorem l_X6_partners_L2 {G : GT} {p : Program} {e : Env} {s : State} {m : MethodId} {args : Array Value} {below : List Frame} {meth : Method} {c : Code} {Q : State → Prop} (C : CT G p s m meth c args cX6_partners 4 RX6) (hr : meth.sig.returnType = (some .int)) (s0 : ST) : ∀ (k : Nat) (v3 : Int32) (v2 : Int32) (e1 : Int32), X6_partners_L2 s0 k v3 v2 = some e1 → Kn G p e rm_X6_partners s m args below meth c Q 4 121 [(2, .int e1)] (wX G s0) → Kn G p e rm_X6_partners s m args below meth c Q 4 87 [(0, .ref (gad G 0)), (3, .int v3), (2, .int v2)] (wX G s0) := by
  have hx := C.1
  have hb := C.2.1
  intro k
  induction k with
  | zero =>
    intro v3 v2 e1 h
    exact nso h
  | succ k ih =>
    intro v3 v2 e1 h hk H locs ls B hl
    have h : X6_partners_L2_b s0 (X6_partners_L2 s0 k) v3 v2 = some e1 := h
    unfold X6_partners_L2_b at h
    refine lv_iload_n hx hb dX6_partners_87 rfl (lv_at hl 1 rfl) ?_
    refine lv_aload_n hx hb dX6_partners_88 rfl (lv_at hl 0 rfl) ?_
    refine r_get C B fo_X6_33 (cX_0 G s0) rfl dX6_partners_89 ?_
    refine r_get C B fo_X6_186 (cX_18 G s0) rfl dX6_partners_92 ?_
    refine lv_icmp_ge (tgt := 121) hx hb dX6_partners_95 (by decide) (fun q24 => ?_) (fun q24 => ?_)
    · have h := ip h q24
      obtain rfl := ret1 h
      exact hk H locs ls B (lv_sub hl [2] rfl)
    · have h := ig h q24
      refine lv_iload_n hx hb dX6_partners_98 rfl (lv_at hl 2 rfl) ?_
      refine lv_bipush (v := (10 : Int32)) hx hb dX6_partners_99 rfl ?_
      refine lv_imul hx hb dX6_partners_101 ?_
      refine lv_aload_n hx hb dX6_partners_102 rfl (lv_at hl 0 rfl) ?_
      refine r_get C B fo_X6_33 (cX_0 G s0) rfl dX6_partners_103 ?_
      refine r_get C B fo_X6_189 (cX_18 G s0) rfl dX6_partners_106 ?_
      refine lv_iload_n hx hb dX6_partners_109 rfl (lv_at hl 1 rfl) ?_
      obtain ⟨q25, h⟩ := gd_o h
      refine r_iald C B (cX_19 G s0) (inb_vp q25) dX6_partners_110 ?_
      refine lv_iadd hx hb dX6_partners_111 ?_
      refine lv_iconst (v := (1 : Int32)) hx hb dX6_partners_112 rfl ?_
      refine lv_iadd hx hb dX6_partners_113 ?_
      obtain ⟨v2_26, q27, h⟩ := nm_o h
      refine r_nm q27 ?_
      refine lv_istore_n (lv' := [(2, .int v2_26), (0, .ref (gad G 0)), (3, .int v3)]) hx hb dX6_partners_114 rfl hl (by decide) rfl (fun ls hl => ?_)
      obtain ⟨v3_28, q29, h⟩ := nm_o h
      refine lv_iinc (v := v3_28) (lv' := [(3, .int v3_28), (2, .int v2_26), (0, .ref (gad G 0))]) hx hb dX6_partners_115 hl (k := 2) rfl q29.symm (by decide) rfl (fun ls hl => ?_)
      refine lv_goto (tgt := 87) hx hb dX6_partners_118 (by decide) ?_
      exact ih v3_28 v2_26 e1 h hk H locs ls B (lv_sub hl [2, 0, 1] rfl)
set_option maxRecDepth 100000 in
set_option maxHeartbeats 4000000 in
theorem c_X6_partners (G : GT) (n : Nat) (s0 : ST) (v1 : Int32) (r : Int32) (s' : ST) (h : X6_partners n s0 v1 = some (r, s')) : Con G yX6_partners cX6_partners 4 (some .int) rm_X6_partners [.ref (gad G 0), .int v1] (wX G s0) (some (.int r)) (wX G s') := by
  unfold X6_partners at h
  refine con_of (by decide +kernel) (Nat.le_of_ble_eq_true rfl) (fun {p e s m below meth c} C hr {H locs ls} B hl => ?_)
  have hx := C.1
  have hb := C.2.1
  have hl : lv_has ls 4 [(0, .ref (gad G 0)), (1, .int v1)] := hl
  refine lv_aload_n hx hb dX6_partners_0 rfl (lv_at hl 0 rfl) ?_
  refine r_get C B fo_X6_10 (cX_0 G s0) rfl dX6_partners_1 ?_
  refine lv_iload_n hx hb dX6_partners_4 rfl (lv_at hl 1 rfl) ?_
  obtain ⟨r2, q1, h⟩ := bd_o h
  refine r_callVi (rest := []) C B hl (c_X4_isSet G s0 v1 r2 q1) cs_X6_79 (cX_1 G s0) rfl rfl rfl (Nat.le_of_ble_eq_true rfl) ⟨rfl, rfl, Nat.le_of_ble_eq_true rfl, Nat.le_of_ble_eq_true rfl⟩ dX6_partners_5 (fun H locs B => ?_)
  refine lv_if_ne (tgt := 14) hx hb dX6_partners_8 (by decide) (fun q3 => ?_) (fun q3 => ?_)
  · have h := ig h q3
    refine lv_aload_n hx hb dX6_partners_14 rfl (lv_at hl 0 rfl) ?_
    refine r_get C B fo_X6_33 (cX_0 G s0) rfl dX6_partners_15 ?_
    obtain ⟨s5, q4, h⟩ := bd_o h
    refine r_callVv (rest := []) C B hl (c_X0_begin G s0 s5 q4) cs_X6_175 (cX_18 G s0) rfl rfl rfl (Nat.le_of_ble_eq_true rfl) ⟨rfl, rfl, Nat.le_of_ble_eq_true rfl, Nat.le_of_ble_eq_true rfl⟩ dX6_partners_18 (fun H locs B => ?_)
    refine lv_iconst (v := (0 : Int32)) hx hb dX6_partners_21 rfl ?_
    refine lv_istore_n (lv' := [(2, .int (0 : Int32)), (0, .ref (gad G 0)), (1, .int v1)]) hx hb dX6_partners_22 rfl hl (by decide) rfl (fun ls hl => ?_)
    obtain ⟨e18, q19, h⟩ := bd_o h
    refine l_X6_partners_L1 C hr n v1 n (0 : Int32) s5 e18 q19 ?_ H locs ls B (lv_sub hl [1, 2, 0] rfl)
    intro H locs ls B hl
    refine lv_aload_n hx hb dX6_partners_63 rfl (lv_at hl 0 rfl) ?_
    refine r_get C B fo_X6_33 (cX_0 G e18) rfl dX6_partners_64 ?_
    refine lv_aload_n hx hb dX6_partners_67 rfl (lv_at hl 0 rfl) ?_
    refine r_get C B fo_X6_10 (cX_0 G e18) rfl dX6_partners_68 ?_
    refine r_get C B fo_X6_95 (cX_1 G e18) rfl dX6_partners_71 ?_
    obtain ⟨r22, s21, q20, h⟩ := bd2_o h
    refine r_callVi (rest := []) C B hl (c_X0_isMade G n e18 (e18.1 3) r22 s21 q20) cs_X6_183 (cX_18 G e18) rfl rfl rfl (Nat.le_of_ble_eq_true rfl) ⟨rfl, rfl, Nat.le_of_ble_eq_true rfl, Nat.le_of_ble_eq_true rfl⟩ dX6_partners_74 (fun H locs B => ?_)
    refine lv_if_ne (tgt := 83) hx hb dX6_partners_77 (by decide) (fun q23 => ?_) (fun q23 => ?_)
    · have h := ig h q23
      refine lv_iconst (v := (0 : Int32)) hx hb dX6_partners_83 rfl ?_
      refine lv_istore_n (lv' := [(2, .int (0 : Int32)), (0, .ref (gad G 0))]) hx hb dX6_partners_84 rfl hl (by decide) rfl (fun ls hl => ?_)
      refine lv_iconst (v := (0 : Int32)) hx hb dX6_partners_85 rfl ?_
      refine lv_istore_n (lv' := [(3, .int (0 : Int32)), (2, .int (0 : Int32)), (0, .ref (gad G 0))]) hx hb dX6_partners_86 rfl hl (by decide) rfl (fun ls hl => ?_)
      obtain ⟨e30, q31, h⟩ := bd_o h
      refine l_X6_partners_L2 C hr s21 n (0 : Int32) (0 : Int32) e30 q31 ?_ H locs ls B (lv_sub hl [2, 0, 1] rfl)
      intro H locs ls B hl
      refine lv_iload_n hx hb dX6_partners_121 rfl (lv_at hl 0 rfl) ?_
      obtain ⟨rfl, rfl⟩ := ret2 h
      exact r_iret C B hr rfl dX6_partners_122
    · have h := ip h q23
      refine lv_bipush (v := (-5 : Int32)) hx hb dX6_partners_80 rfl ?_
      obtain ⟨rfl, rfl⟩ := ret2 h
      exact r_iret C B hr rfl dX6_partners_82
  · have h := ip h q3
    refine lv_bipush (v := (-2 : Int32)) hx hb dX6_partners_11 rfl ?_
    obtain ⟨rfl, rfl⟩ := ret2 h
    exact r_iret C B hr rfl dX6_partners_13
