/-! WALKS (M 5): each method comes back with what its plain function says -/
def rm_X7_isDone : Room := { frames := 3, cells := 0, slots := 0, locals := 67 }
set_option maxRecDepth 100000 in
set_option maxHeartbeats 4000000 in
theorem c_X7_isDone (G : GT) (n : Nat) (s0 : ST)  (r : Int32) (s' : ST) (h : X7_isDone n s0  = some (r, s')) : Con G yX7_isDone cX7_isDone 1 (some .boolean) rm_X7_isDone [.ref (gad G 0)] (wM G s0) (some (.int r)) (wM G s') := by
  unfold X7_isDone at h
  refine con_of (by decide +kernel) (Nat.le_of_ble_eq_true rfl) (fun {p e s m below meth c} C hr {H locs ls} B hl => ?_)
  have hx := C.1
  have hb := C.2.1
  have hl : lv_has ls 1 [(0, .ref (gad G 0))] := hl
  refine lv_aload_n hx hb dX7_isDone_0 rfl (lv_at hl 0 rfl) ?_
  refine r_get C B fo_X7_202 (cM_0 G s0) rfl dX7_isDone_1 ?_
  by_cases q1 : (s0.1 6) = (0 : Int32)
  · have h := ip h q1
    refine r_tab (off := 36) (tgt := 40) C q1 dX7_isDone_4 (by decide) (by decide) ?_
    refine lv_aload_n hx hb dX7_isDone_40 rfl (lv_at hl 0 rfl) ?_
    refine lv_aload_n hx hb dX7_isDone_41 rfl (lv_at hl 0 rfl) ?_
    refine r_get C B fo_X7_237 (cM_0 G s0) rfl dX7_isDone_42 ?_
    obtain ⟨r4, s3, q2, h⟩ := bd2_o h
    refine r_callVi (rest := []) C B hl (c_X7_posts G n s0 (s0.1 8) r4 s3 q2) cs_X7_243 (cM_0 G s0) rfl rfl rfl (Nat.le_of_ble_eq_true rfl) ⟨rfl, rfl, Nat.le_of_ble_eq_true rfl, Nat.le_of_ble_eq_true rfl⟩ dX7_isDone_45 (fun H locs B => ?_)
    refine lv_if_lt (tgt := 55) hx hb dX7_isDone_48 (by decide) (fun q5 => ?_) (fun q5 => ?_)
    · have h := ip h q5
      refine lv_iconst (v := (0 : Int32)) hx hb dX7_isDone_55 rfl ?_
      obtain ⟨rfl, rfl⟩ := ret2 h
      exact r_iret C B hr nar_0 dX7_isDone_56
    · have h := ig h q5
      refine lv_iconst (v := (1 : Int32)) hx hb dX7_isDone_51 rfl ?_
      refine lv_goto (tgt := 56) hx hb dX7_isDone_52 (by decide) ?_
      obtain ⟨rfl, rfl⟩ := ret2 h
      exact r_iret C B hr nar_1 dX7_isDone_56
  · have h := ig h q1
    by_cases q6 : (s0.1 6) = (1 : Int32)
    · have h := ip h q6
      refine r_tab (off := 53) (tgt := 57) C q6 dX7_isDone_4 (by decide) (by decide) ?_
      refine lv_aload_n hx hb dX7_isDone_57 rfl (lv_at hl 0 rfl) ?_
      refine lv_aload_n hx hb dX7_isDone_58 rfl (lv_at hl 0 rfl) ?_
      refine r_get C B fo_X7_237 (cM_0 G s0) rfl dX7_isDone_59 ?_
      refine lv_aload_n hx hb dX7_isDone_62 rfl (lv_at hl 0 rfl) ?_
      refine r_get C B fo_X7_240 (cM_0 G s0) rfl dX7_isDone_63 ?_
      refine lv_iconst (v := (1 : Int32)) hx hb dX7_isDone_66 rfl ?_
      obtain ⟨r9, s8, q7, h⟩ := bd2_o h
      refine r_callVi (rest := []) C B hl (c_X7_road G s0 (s0.1 8) (s0.1 9) (1 : Int32) r9 s8 q7) cs_X7_245 (cM_0 G s0) rfl rfl rfl (Nat.le_of_ble_eq_true rfl) ⟨rfl, rfl, Nat.le_of_ble_eq_true rfl, Nat.le_of_ble_eq_true rfl⟩ dX7_isDone_67 (fun H locs B => ?_)
      refine lv_if_lt (tgt := 77) hx hb dX7_isDone_70 (by decide) (fun q10 => ?_) (fun q10 => ?_)
      · have h := ip h q10
        refine lv_iconst (v := (0 : Int32)) hx hb dX7_isDone_77 rfl ?_
        obtain ⟨rfl, rfl⟩ := ret2 h
        exact r_iret C B hr nar_0 dX7_isDone_78
      · have h := ig h q10
        refine lv_iconst (v := (1 : Int32)) hx hb dX7_isDone_73 rfl ?_
        refine lv_goto (tgt := 78) hx hb dX7_isDone_74 (by decide) ?_
        obtain ⟨rfl, rfl⟩ := ret2 h
        exact r_iret C B hr nar_1 dX7_isDone_78
    · have h := ig h q6
      by_cases q11 : (s0.1 6) = (2 : Int32)
      · have h := ip h q11
        refine r_tab (off := 75) (tgt := 79) C q11 dX7_isDone_4 (by decide) (by decide) ?_
        refine lv_aload_n hx hb dX7_isDone_79 rfl (lv_at hl 0 rfl) ?_
        refine lv_aload_n hx hb dX7_isDone_80 rfl (lv_at hl 0 rfl) ?_
        refine r_get C B fo_X7_237 (cM_0 G s0) rfl dX7_isDone_81 ?_
        refine lv_aload_n hx hb dX7_isDone_84 rfl (lv_at hl 0 rfl) ?_
        refine r_get C B fo_X7_240 (cM_0 G s0) rfl dX7_isDone_85 ?_
        refine lv_iconst (v := (0 : Int32)) hx hb dX7_isDone_88 rfl ?_
        obtain ⟨r14, s13, q12, h⟩ := bd2_o h
        refine r_callVi (rest := []) C B hl (c_X7_road G s0 (s0.1 8) (s0.1 9) (0 : Int32) r14 s13 q12) cs_X7_245 (cM_0 G s0) rfl rfl rfl (Nat.le_of_ble_eq_true rfl) ⟨rfl, rfl, Nat.le_of_ble_eq_true rfl, Nat.le_of_ble_eq_true rfl⟩ dX7_isDone_89 (fun H locs B => ?_)
        refine lv_if_lt (tgt := 99) hx hb dX7_isDone_92 (by decide) (fun q15 => ?_) (fun q15 => ?_)
        · have h := ip h q15
          refine lv_iconst (v := (0 : Int32)) hx hb dX7_isDone_99 rfl ?_
          obtain ⟨rfl, rfl⟩ := ret2 h
          exact r_iret C B hr nar_0 dX7_isDone_100
        · have h := ig h q15
          refine lv_iconst (v := (1 : Int32)) hx hb dX7_isDone_95 rfl ?_
          refine lv_goto (tgt := 100) hx hb dX7_isDone_96 (by decide) ?_
          obtain ⟨rfl, rfl⟩ := ret2 h
          exact r_iret C B hr nar_1 dX7_isDone_100
      · have h := ig h q11
        by_cases q16 : (s0.1 6) = (3 : Int32)
        · have h := ip h q16
          refine r_tab (off := 97) (tgt := 101) C q16 dX7_isDone_4 (by decide) (by decide) ?_
          refine lv_aload_n hx hb dX7_isDone_101 rfl (lv_at hl 0 rfl) ?_
          refine lv_aload_n hx hb dX7_isDone_102 rfl (lv_at hl 0 rfl) ?_
          refine r_get C B fo_X7_237 (cM_0 G s0) rfl dX7_isDone_103 ?_
          obtain ⟨r18, q17, h⟩ := bd_o h
          refine r_callVi (rest := []) C B hl (c_X7_isPost G s0 (s0.1 8) r18 q17) cs_X7_119 (cM_0 G s0) rfl rfl rfl (Nat.le_of_ble_eq_true rfl) ⟨rfl, rfl, Nat.le_of_ble_eq_true rfl, Nat.le_of_ble_eq_true rfl⟩ dX7_isDone_106 (fun H locs B => ?_)
          refine lv_if_eq (tgt := 134) hx hb dX7_isDone_109 (by decide) (fun q19 => ?_) (fun q19 => ?_)
          · have h := ip h q19
            refine lv_iconst (v := (0 : Int32)) hx hb dX7_isDone_134 rfl ?_
            obtain ⟨rfl, rfl⟩ := ret2 h
            exact r_iret C B hr nar_0 dX7_isDone_135
          · have h := ig h q19
            refine lv_aload_n hx hb dX7_isDone_112 rfl (lv_at hl 0 rfl) ?_
            refine lv_aload_n hx hb dX7_isDone_113 rfl (lv_at hl 0 rfl) ?_
            refine r_get C B fo_X7_74 (cM_0 G s0) rfl dX7_isDone_114 ?_
            refine lv_iconst (v := (1 : Int32)) hx hb dX7_isDone_117 rfl ?_
            refine lv_aload_n hx hb dX7_isDone_118 rfl (lv_at hl 0 rfl) ?_
            refine r_get C B fo_X7_237 (cM_0 G s0) rfl dX7_isDone_119 ?_
            refine lv_ishl hx hb dX7_isDone_122 ?_
            refine lv_ior hx hb dX7_isDone_123 ?_
            obtain ⟨r22, s21, q20, h⟩ := bd2_o h
            refine r_callVi (rest := []) C B hl (c_X7_targets G s0 ((s0.1 1) ||| ((1 : Int32) <<< ((s0.1 8) &&& 31))) r22 s21 q20) cs_X7_247 (cM_0 G s0) rfl rfl rfl (Nat.le_of_ble_eq_true rfl) ⟨rfl, rfl, Nat.le_of_ble_eq_true rfl, Nat.le_of_ble_eq_true rfl⟩ dX7_isDone_124 (fun H locs B => ?_)
            refine lv_if_lt (tgt := 134) hx hb dX7_isDone_127 (by decide) (fun q23 => ?_) (fun q23 => ?_)
            · have h := ip h q23
              refine lv_iconst (v := (0 : Int32)) hx hb dX7_isDone_134 rfl ?_
              obtain ⟨rfl, rfl⟩ := ret2 h
              exact r_iret C B hr nar_0 dX7_isDone_135
            · have h := ig h q23
              refine lv_iconst (v := (1 : Int32)) hx hb dX7_isDone_130 rfl ?_
              refine lv_goto (tgt := 135) hx hb dX7_isDone_131 (by decide) ?_
              obtain ⟨rfl, rfl⟩ := ret2 h
              exact r_iret C B hr nar_1 dX7_isDone_135
        · have h := ig h q16
          by_cases q24 : (s0.1 6) = (4 : Int32)
          · have h := ip h q24
            refine r_tab (off := 132) (tgt := 136) C q24 dX7_isDone_4 (by decide) (by decide) ?_
            refine lv_aload_n hx hb dX7_isDone_136 rfl (lv_at hl 0 rfl) ?_
            refine lv_aload_n hx hb dX7_isDone_137 rfl (lv_at hl 0 rfl) ?_
            refine r_get C B fo_X7_225 (cM_0 G s0) rfl dX7_isDone_138 ?_
            obtain ⟨r27, s26, q25, h⟩ := bd2_o h
            refine r_callVi (rest := []) C B hl (c_X7_add G s0 (s0.1 10) r27 s26 q25) cs_X7_249 (cM_0 G s0) rfl rfl rfl (Nat.le_of_ble_eq_true rfl) ⟨rfl, rfl, Nat.le_of_ble_eq_true rfl, Nat.le_of_ble_eq_true rfl⟩ dX7_isDone_141 (fun H locs B => ?_)
            refine lv_if_lt (tgt := 151) hx hb dX7_isDone_144 (by decide) (fun q28 => ?_) (fun q28 => ?_)
            · have h := ip h q28
              refine lv_iconst (v := (0 : Int32)) hx hb dX7_isDone_151 rfl ?_
              obtain ⟨rfl, rfl⟩ := ret2 h
              exact r_iret C B hr nar_0 dX7_isDone_152
            · have h := ig h q28
              refine lv_iconst (v := (1 : Int32)) hx hb dX7_isDone_147 rfl ?_
              refine lv_goto (tgt := 152) hx hb dX7_isDone_148 (by decide) ?_
              obtain ⟨rfl, rfl⟩ := ret2 h
              exact r_iret C B hr nar_1 dX7_isDone_152
          · have h := ig h q24
            refine lv_tableOut (tgt := 153) hx hb dX7_isDone_4 (r_span (fun k h1 h2 => by have e : k = 0 ∨ k = 1 ∨ k = 2 ∨ k = 3 ∨ k = 4 := (by omega); rcases e with rfl | rfl | rfl | rfl | rfl; exact ne_toInt q1; exact ne_toInt q6; exact ne_toInt q11; exact ne_toInt q16; exact ne_toInt q24)) (by decide) ?_
            refine lv_aload_n hx hb dX7_isDone_153 rfl (lv_at hl 0 rfl) ?_
            refine lv_aload_n hx hb dX7_isDone_154 rfl (lv_at hl 0 rfl) ?_
            refine r_get C B fo_X7_237 (cM_0 G s0) rfl dX7_isDone_155 ?_
            refine lv_aload_n hx hb dX7_isDone_158 rfl (lv_at hl 0 rfl) ?_
            refine r_get C B fo_X7_240 (cM_0 G s0) rfl dX7_isDone_159 ?_
            obtain ⟨r31, s30, q29, h⟩ := bd2_o h
            refine r_callVi (rest := []) C B hl (c_X7_weigh G s0 (s0.1 8) (s0.1 9) r31 s30 q29) cs_X7_252 (cM_0 G s0) rfl rfl rfl (Nat.le_of_ble_eq_true rfl) ⟨rfl, rfl, Nat.le_of_ble_eq_true rfl, Nat.le_of_ble_eq_true rfl⟩ dX7_isDone_162 (fun H locs B => ?_)
            refine lv_if_lt (tgt := 172) hx hb dX7_isDone_165 (by decide) (fun q32 => ?_) (fun q32 => ?_)
            · have h := ip h q32
              refine lv_iconst (v := (0 : Int32)) hx hb dX7_isDone_172 rfl ?_
              obtain ⟨rfl, rfl⟩ := ret2 h
              exact r_iret C B hr nar_0 dX7_isDone_173
            · have h := ig h q32
              refine lv_iconst (v := (1 : Int32)) hx hb dX7_isDone_168 rfl ?_
              refine lv_goto (tgt := 173) hx hb dX7_isDone_169 (by decide) ?_
              obtain ⟨rfl, rfl⟩ := ret2 h
              exact r_iret C B hr nar_1 dX7_isDone_173
def rm_X7_reads : Room := { frames := 7, cells := 0, slots := 0, locals := 149 }
set_option maxRecDepth 100000 in
set_option maxHeartbeats 4000000 in
theorem l_X7_reads_L1 {G : GT} {p : Program} {e : Env} {s : State} {m : MethodId} {args : Array Value} {below : List Frame} {meth : Method} {c : Code} {Q : State → Prop} (C : CT G p s m meth c args cX7_reads 3 RX7) (hr : meth.sig.returnType = (some .int)) (n : Nat) (v1 : Int32) : ∀ (k : Nat) (v2 : Int32) (s0 : ST) (e1 : (Int32 × ST) ⊕ (ST)), X7_reads_L1 n v1 k v2 s0 = some e1 → (∀ rv, e1 = Sum.inl rv → Q = QR G below args s (some (.int rv.1)) (wM G rv.2)) → (∀ ex, e1 = Sum.inr ex → Kn G p e rm_X7_reads s m args below meth c Q 3 14 [(0, .ref (gad G 0))] (wM G ex)) → Kn G p e rm_X7_reads s m args below meth c Q 3 7 [(0, .ref (gad G 0)), (1, .int v1), (2, .int v2)] (wM G s0) := by
  have hx := C.1
  have hb := C.2.1
  intro k
  induction k with
  | zero =>
    intro v2 s0 e1 h
    exact nso h
  | succ k ih =>
    intro v2 s0 e1 h hret hk H locs ls B hl
    have h : X7_reads_L1_b n v1 (X7_reads_L1 n v1 k) v2 s0 = some e1 := h
    unfold X7_reads_L1_b at h
    refine lv_aload_n hx hb dX7_reads_7 rfl (lv_at hl 0 rfl) ?_
    obtain ⟨r5, s4, q3, h⟩ := bd2_o h
    refine r_callVi (rest := []) C B hl (c_X7_readStatement G n s0 r5 s4 q3) cs_X7_254 (cM_0 G s0) rfl rfl rfl (Nat.le_of_ble_eq_true rfl) ⟨rfl, rfl, Nat.le_of_ble_eq_true rfl, Nat.le_of_ble_eq_true rfl⟩ dX7_reads_8 (fun H locs B => ?_)
    refine lv_if_ne (tgt := 22) hx hb dX7_reads_11 (by decide) (fun q6 => ?_) (fun q6 => ?_)
    · have h := ig h q6
      refine lv_iload_n hx hb dX7_reads_22 rfl (lv_at hl 1 rfl) ?_
      refine lv_if_eq (tgt := 39) hx hb dX7_reads_23 (by decide) (fun q7 => ?_) (fun q7 => ?_)
      · have h := ip h q7
        obtain ⟨v2_8, q9, h⟩ := nm_o h
        refine lv_iinc (v := v2_8) (lv' := [(2, .int v2_8), (0, .ref (gad G 0)), (1, .int v1)]) hx hb dX7_reads_39 hl (k := 2) rfl q9.symm (by decide) rfl (fun ls hl => ?_)
        refine lv_aload_n hx hb dX7_reads_42 rfl (lv_at hl 1 rfl) ?_
        refine r_get C B fo_X7_190 (cM_0 G s4) rfl dX7_reads_43 ?_
        refine lv_aload_n hx hb dX7_reads_46 rfl (lv_at hl 1 rfl) ?_
        refine r_get C B fo_X7_176 (cM_0 G s4) rfl dX7_reads_47 ?_
        refine lv_icmp_ne (tgt := 55) hx hb dX7_reads_50 (by decide) (fun q10 => ?_) (fun q10 => ?_)
        · have h := ig h q10
          refine lv_aload_n hx hb dX7_reads_55 rfl (lv_at hl 1 rfl) ?_
          refine lv_bipush (v := (59 : Int32)) hx hb dX7_reads_56 rfl ?_
          obtain ⟨r12, q11, h⟩ := bd_o h
          refine r_callVi (rest := []) C B hl (c_X7_isHere G s4 (59 : Int32) r12 q11) cs_X7_216 (cM_0 G s4) rfl rfl rfl (Nat.le_of_ble_eq_true rfl) ⟨rfl, rfl, Nat.le_of_ble_eq_true rfl, Nat.le_of_ble_eq_true rfl⟩ dX7_reads_58 (fun H locs B => ?_)
          refine lv_if_ne (tgt := 72) hx hb dX7_reads_61 (by decide) (fun q13 => ?_) (fun q13 => ?_)
          · have h := ig h q13
            refine lv_aload_n hx hb dX7_reads_72 rfl (lv_at hl 1 rfl) ?_
            refine lv_dup hx hb dX7_reads_73 rfl ?_
            refine r_get C B fo_X7_190 (cM_0 G s4) rfl dX7_reads_74 ?_
            refine lv_iconst (v := (1 : Int32)) hx hb dX7_reads_77 rfl ?_
            refine lv_iadd hx hb dX7_reads_78 ?_
            obtain ⟨s14, q15, h⟩ := nm_o h
            refine r_put C B fp_X7_190 (cM_0 G s4) (Nat.le_of_ble_eq_true rfl) rfl rfl ((uMs_4 G s4 _).trans (congrArg (wM G) q15.symm)) dX7_reads_79 (fun H locs B => ?_)
            refine lv_goto (tgt := 7) hx hb dX7_reads_82 (by decide) ?_
            exact ih v2_8 s14 e1 h hret hk H locs ls B (lv_sub hl [1, 2, 0] rfl)
          · have h := ip h q13
            refine lv_bipush (v := (-100 : Int32)) hx hb dX7_reads_64 rfl ?_
            refine lv_aload_n hx hb dX7_reads_66 rfl (lv_at hl 1 rfl) ?_
            refine r_get C B fo_X7_190 (cM_0 G s4) rfl dX7_reads_67 ?_
            refine lv_isub hx hb dX7_reads_70 ?_
            obtain rfl := ret1 h
            rw [hret _ rfl]
            exact r_iret C B hr rfl dX7_reads_71
        · have h := ip h q10
          refine lv_iload_n hx hb dX7_reads_53 rfl (lv_at hl 0 rfl) ?_
          obtain rfl := ret1 h
          rw [hret _ rfl]
          exact r_iret C B hr rfl dX7_reads_54
      · have h := ig h q7
        refine lv_aload_n hx hb dX7_reads_26 rfl (lv_at hl 0 rfl) ?_
        obtain ⟨r18, s17, q16, h⟩ := bd2_o h
        refine r_callVi (rest := []) C B hl (c_X7_isDone G n s4 r18 s17 q16) cs_X7_257 (cM_0 G s4) rfl rfl rfl (Nat.le_of_ble_eq_true rfl) ⟨rfl, rfl, Nat.le_of_ble_eq_true rfl, Nat.le_of_ble_eq_true rfl⟩ dX7_reads_27 (fun H locs B => ?_)
        refine lv_if_ne (tgt := 39) hx hb dX7_reads_30 (by decide) (fun q19 => ?_) (fun q19 => ?_)
        · have h := ig h q19
          obtain ⟨v2_20, q21, h⟩ := nm_o h
          refine lv_iinc (v := v2_20) (lv' := [(2, .int v2_20), (0, .ref (gad G 0)), (1, .int v1)]) hx hb dX7_reads_39 hl (k := 2) rfl q21.symm (by decide) rfl (fun ls hl => ?_)
          refine lv_aload_n hx hb dX7_reads_42 rfl (lv_at hl 1 rfl) ?_
          refine r_get C B fo_X7_190 (cM_0 G s17) rfl dX7_reads_43 ?_
          refine lv_aload_n hx hb dX7_reads_46 rfl (lv_at hl 1 rfl) ?_
          refine r_get C B fo_X7_176 (cM_0 G s17) rfl dX7_reads_47 ?_
          refine lv_icmp_ne (tgt := 55) hx hb dX7_reads_50 (by decide) (fun q22 => ?_) (fun q22 => ?_)
          · have h := ig h q22
            refine lv_aload_n hx hb dX7_reads_55 rfl (lv_at hl 1 rfl) ?_
            refine lv_bipush (v := (59 : Int32)) hx hb dX7_reads_56 rfl ?_
            obtain ⟨r24, q23, h⟩ := bd_o h
            refine r_callVi (rest := []) C B hl (c_X7_isHere G s17 (59 : Int32) r24 q23) cs_X7_216 (cM_0 G s17) rfl rfl rfl (Nat.le_of_ble_eq_true rfl) ⟨rfl, rfl, Nat.le_of_ble_eq_true rfl, Nat.le_of_ble_eq_true rfl⟩ dX7_reads_58 (fun H locs B => ?_)
            refine lv_if_ne (tgt := 72) hx hb dX7_reads_61 (by decide) (fun q25 => ?_) (fun q25 => ?_)
            · have h := ig h q25
              refine lv_aload_n hx hb dX7_reads_72 rfl (lv_at hl 1 rfl) ?_
              refine lv_dup hx hb dX7_reads_73 rfl ?_
              refine r_get C B fo_X7_190 (cM_0 G s17) rfl dX7_reads_74 ?_
              refine lv_iconst (v := (1 : Int32)) hx hb dX7_reads_77 rfl ?_
              refine lv_iadd hx hb dX7_reads_78 ?_
              obtain ⟨s26, q27, h⟩ := nm_o h
              refine r_put C B fp_X7_190 (cM_0 G s17) (Nat.le_of_ble_eq_true rfl) rfl rfl ((uMs_4 G s17 _).trans (congrArg (wM G) q27.symm)) dX7_reads_79 (fun H locs B => ?_)
              refine lv_goto (tgt := 7) hx hb dX7_reads_82 (by decide) ?_
              exact ih v2_20 s26 e1 h hret hk H locs ls B (lv_sub hl [1, 2, 0] rfl)
            · have h := ip h q25
              refine lv_bipush (v := (-100 : Int32)) hx hb dX7_reads_64 rfl ?_
              refine lv_aload_n hx hb dX7_reads_66 rfl (lv_at hl 1 rfl) ?_
              refine r_get C B fo_X7_190 (cM_0 G s17) rfl dX7_reads_67 ?_
              refine lv_isub hx hb dX7_reads_70 ?_
              obtain rfl := ret1 h
              rw [hret _ rfl]
              exact r_iret C B hr rfl dX7_reads_71
          · have h := ip h q22
            refine lv_iload_n hx hb dX7_reads_53 rfl (lv_at hl 0 rfl) ?_
            obtain rfl := ret1 h
            rw [hret _ rfl]
            exact r_iret C B hr rfl dX7_reads_54
        · have h := ip h q19
          refine lv_sipush (v := (-300 : Int32)) hx hb dX7_reads_33 rfl ?_
          refine lv_iload_n hx hb dX7_reads_36 rfl (lv_at hl 2 rfl) ?_
          refine lv_isub hx hb dX7_reads_37 ?_
          obtain rfl := ret1 h
          rw [hret _ rfl]
          exact r_iret C B hr rfl dX7_reads_38
    · have h := ip h q6
      obtain rfl := ret1 h
      exact hk _ rfl H locs ls B (lv_sub hl [0] rfl)
set_option maxRecDepth 100000 in
set_option maxHeartbeats 4000000 in
theorem c_X7_reads (G : GT) (n : Nat) (s0 : ST) (v1 : Int32) (r : Int32) (s' : ST) (h : X7_reads n s0 v1 = some (r, s')) : Con G yX7_reads cX7_reads 3 (some .int) rm_X7_reads [.ref (gad G 0), .int v1] (wM G s0) (some (.int r)) (wM G s') := by
  unfold X7_reads at h
  refine con_of (by decide +kernel) (Nat.le_of_ble_eq_true rfl) (fun {p e s m below meth c} C hr {H locs ls} B hl => ?_)
  have hx := C.1
  have hb := C.2.1
  have hl : lv_has ls 3 [(0, .ref (gad G 0)), (1, .int v1)] := hl
  refine lv_aload_n hx hb dX7_reads_0 rfl (lv_at hl 0 rfl) ?_
  refine lv_iconst (v := (0 : Int32)) hx hb dX7_reads_1 rfl ?_
  obtain ⟨s1, q2, h⟩ := nm_o h
  refine r_put C B fp_X7_190 (cM_0 G s0) (Nat.le_of_ble_eq_true rfl) rfl rfl ((uMs_4 G s0 _).trans (congrArg (wM G) q2.symm)) dX7_reads_2 (fun H locs B => ?_)
  refine lv_iconst (v := (0 : Int32)) hx hb dX7_reads_5 rfl ?_
  refine lv_istore_n (lv' := [(2, .int (0 : Int32)), (0, .ref (gad G 0)), (1, .int v1)]) hx hb dX7_reads_6 rfl hl (by decide) rfl (fun ls hl => ?_)
  obtain ⟨e28, q29, h⟩ := bd_o h
  refine l_X7_reads_L1 C hr n v1 n (0 : Int32) s1 e28 q29 (fun rv q => by have h := sm_l h q; cases h; rfl) (fun e30 q31 => ?_) H locs ls B (lv_sub hl [1, 2, 0] rfl)
  have h := sm_r h q31
  intro H locs ls B hl
  refine lv_bipush (v := (-100 : Int32)) hx hb dX7_reads_14 rfl ?_
  refine lv_aload_n hx hb dX7_reads_16 rfl (lv_at hl 0 rfl) ?_
  refine r_get C B fo_X7_213 (cM_0 G e30) rfl dX7_reads_17 ?_
  refine lv_isub hx hb dX7_reads_20 ?_
  obtain ⟨rfl, rfl⟩ := ret2 h
  exact r_iret C B hr rfl dX7_reads_21
def rm_X7_read : Room := { frames := 8, cells := 0, slots := 0, locals := 171 }
set_option maxRecDepth 100000 in
set_option maxHeartbeats 4000000 in
theorem c_X7_read (G : GT) (n : Nat) (s0 : ST)  (r : Int32) (s' : ST) (h : X7_read n s0  = some (r, s')) : Con G yX7_read cX7_read 2 (some .int) rm_X7_read [.ref (gad G 0)] (wM G s0) (some (.int r)) (wM G s') := by
  unfold X7_read at h
  refine con_of (by decide +kernel) (Nat.le_of_ble_eq_true rfl) (fun {p e s m below meth c} C hr {H locs ls} B hl => ?_)
  have hx := C.1
  have hb := C.2.1
  have hl : lv_has ls 2 [(0, .ref (gad G 0))] := hl
  refine lv_aload_n hx hb dX7_read_0 rfl (lv_at hl 0 rfl) ?_
  refine lv_iconst (v := (0 : Int32)) hx hb dX7_read_1 rfl ?_
  obtain ⟨r3, s2, q1, h⟩ := bd2_o h
  refine r_callVi (rest := []) C B hl (c_X7_reads G n s0 (0 : Int32) r3 s2 q1) cs_X7_260 (cM_0 G s0) rfl rfl rfl (Nat.le_of_ble_eq_true rfl) ⟨rfl, rfl, Nat.le_of_ble_eq_true rfl, Nat.le_of_ble_eq_true rfl⟩ dX7_read_2 (fun H locs B => ?_)
  refine lv_istore_n (lv' := [(1, .int r3), (0, .ref (gad G 0))]) hx hb dX7_read_5 rfl hl (by decide) rfl (fun ls hl => ?_)
  refine lv_iload_n hx hb dX7_read_6 rfl (lv_at hl 0 rfl) ?_
  refine lv_if_lt (tgt := 16) hx hb dX7_read_7 (by decide) (fun q4 => ?_) (fun q4 => ?_)
  · have h := ip h q4
    refine lv_aload_n hx hb dX7_read_16 rfl (lv_at hl 1 rfl) ?_
    refine lv_iconst (v := (0 : Int32)) hx hb dX7_read_17 rfl ?_
    obtain ⟨s5, q6, h⟩ := nm_o h
    refine r_put C B fp_X7_176 (cM_0 G s2) (Nat.le_of_ble_eq_true rfl) rfl rfl ((uMs_3 G s2 _).trans (congrArg (wM G) q6.symm)) dX7_read_18 (fun H locs B => ?_)
    refine lv_iload_n hx hb dX7_read_21 rfl (lv_at hl 0 rfl) ?_
    obtain ⟨rfl, rfl⟩ := ret2 h
    exact r_iret C B hr rfl dX7_read_22
  · have h := ig h q4
    refine lv_aload_n hx hb dX7_read_10 rfl (lv_at hl 1 rfl) ?_
    refine lv_iconst (v := (1 : Int32)) hx hb dX7_read_11 rfl ?_
    obtain ⟨r9, s8, q7, h⟩ := bd2_o h
    refine r_callVi (rest := []) C B hl (c_X7_reads G n s2 (1 : Int32) r9 s8 q7) cs_X7_260 (cM_0 G s2) rfl rfl rfl (Nat.le_of_ble_eq_true rfl) ⟨rfl, rfl, Nat.le_of_ble_eq_true rfl, Nat.le_of_ble_eq_true rfl⟩ dX7_read_12 (fun H locs B => ?_)
    refine lv_istore_n (lv' := [(1, .int r9), (0, .ref (gad G 0))]) hx hb dX7_read_15 rfl hl (by decide) rfl (fun ls hl => ?_)
    refine lv_aload_n hx hb dX7_read_16 rfl (lv_at hl 1 rfl) ?_
    refine lv_iconst (v := (0 : Int32)) hx hb dX7_read_17 rfl ?_
    obtain ⟨s10, q11, h⟩ := nm_o h
    refine r_put C B fp_X7_176 (cM_0 G s8) (Nat.le_of_ble_eq_true rfl) rfl rfl ((uMs_3 G s8 _).trans (congrArg (wM G) q11.symm)) dX7_read_18 (fun H locs B => ?_)
    refine lv_iload_n hx hb dX7_read_21 rfl (lv_at hl 0 rfl) ?_
    obtain ⟨rfl, rfl⟩ := ret2 h
    exact r_iret C B hr rfl dX7_read_22
def rm_X7_writes : Room := { frames := 0, cells := 0, slots := 0, locals := 0 }
set_option maxRecDepth 100000 in
set_option maxHeartbeats 4000000 in
theorem c_X7_writes (G : GT) (s0 : ST) (v1 : Int32) (s' : ST) (h : X7_writes s0 v1 = some s') : Con G yX7_writes cX7_writes 2 none rm_X7_writes [.ref (gad G 0), .int v1] (wM G s0) none (wM G s') := by
  unfold X7_writes at h
  refine con_of (by decide +kernel) (Nat.le_of_ble_eq_true rfl) (fun {p e s m below meth c} C hr {H locs ls} B hl => ?_)
  have hx := C.1
  have hb := C.2.1
  have hl : lv_has ls 2 [(0, .ref (gad G 0)), (1, .int v1)] := hl
  refine lv_aload_n hx hb dX7_writes_0 rfl (lv_at hl 0 rfl) ?_
  refine r_get C B fo_X7_57 (cM_0 G s0) rfl dX7_writes_1 ?_
  refine lv_aload_n hx hb dX7_writes_4 rfl (lv_at hl 0 rfl) ?_
  refine r_get C B fo_X7_264 (cM_0 G s0) rfl dX7_writes_5 ?_
  refine lv_iload_n hx hb dX7_writes_8 rfl (lv_at hl 1 rfl) ?_
  obtain ⟨q1, h⟩ := gd_o h
  obtain ⟨s2, q3, h⟩ := nm_o h
  refine r_iast C B (cM_15 G s0) (inb_vp q1) ((uMa_14 G s0 _).trans (congrArg (wM G) q3.symm)) dX7_writes_9 (fun H locs B => ?_)
  refine lv_aload_n hx hb dX7_writes_10 rfl (lv_at hl 0 rfl) ?_
  refine lv_dup hx hb dX7_writes_11 rfl ?_
  refine r_get C B fo_X7_264 (cM_0 G s2) rfl dX7_writes_12 ?_
  refine lv_iconst (v := (1 : Int32)) hx hb dX7_writes_15 rfl ?_
  refine lv_iadd hx hb dX7_writes_16 ?_
  obtain ⟨s4, q5, h⟩ := nm_o h
  refine r_put C B fp_X7_264 (cM_0 G s2) (Nat.le_of_ble_eq_true rfl) rfl rfl ((uMs_11 G s2 _).trans (congrArg (wM G) q5.symm)) dX7_writes_17 (fun H locs B => ?_)
  obtain rfl := ret1 h
  exact r_vret C B hr dX7_writes_20
def rm_X7_writesWord : Room := { frames := 4, cells := 0, slots := 0, locals := 85 }
set_option maxRecDepth 100000 in
set_option maxHeartbeats 4000000 in
theorem l_X7_writesWord_L1 {G : GT} {p : Program} {e : Env} {s : State} {m : MethodId} {args : Array Value} {below : List Frame} {meth : Method} {c : Code} {Q : State → Prop} (C : CT G p s m meth c args cX7_writesWord 3 RX7) (hr : meth.sig.returnType = none) (v1 : Int32) : ∀ (k : Nat) (v2 : Int32) (s0 : ST) (e1 : ST), X7_writesWord_L1 v1 k v2 s0 = some e1 → Kn G p e rm_X7_writesWord s m args below meth c Q 3 44 [] (wM G e1) → Kn G p e rm_X7_writesWord s m args below meth c Q 3 15 [(0, .ref (gad G 0)), (1, .int v1), (2, .int v2)] (wM G s0) := by
  have hx := C.1
  have hb := C.2.1
  intro k
  induction k with
  | zero =>
    intro v2 s0 e1 h
    exact nso h
  | succ k ih =>
    intro v2 s0 e1 h hk H locs ls B hl
    have h : X7_writesWord_L1_b v1 (X7_writesWord_L1 v1 k) v2 s0 = some e1 := h
    unfold X7_writesWord_L1_b at h
    refine lv_iload_n hx hb dX7_writesWord_15 rfl (lv_at hl 2 rfl) ?_
    refine lv_iload_n hx hb dX7_writesWord_16 rfl (lv_at hl 1 rfl) ?_
    obtain ⟨r2, q3, h⟩ := bd_o h
    refine r_callSa (rest := [.int v2]) C B.2.2 hl (c_X7_wordOf G v1 r2 q3) cs_X7_205 rfl rfl (Nat.le_of_ble_eq_true rfl) ⟨rfl, rfl, Nat.le_of_ble_eq_true rfl, Nat.le_of_ble_eq_true rfl⟩ dX7_writesWord_17 ?_
    obtain ⟨r4, q5, h⟩ := bd_o h
    refine r_callTi (rest := [.int v2]) C B.2.2 hl (txok_length q5) rfl (c_Tlength G r2 r4 q5) cs_X7_193 rfl rfl (Nat.le_of_ble_eq_true rfl) ⟨rfl, rfl, Nat.le_of_ble_eq_true rfl, Nat.le_of_ble_eq_true rfl⟩ dX7_writesWord_20 ?_
    refine lv_icmp_ge (tgt := 44) hx hb dX7_writesWord_23 (by decide) (fun q6 => ?_) (fun q6 => ?_)
    · have h := ip h q6
      obtain rfl := ret1 h
      exact hk H locs ls B (lv_sub hl [] rfl)
    · have h := ig h q6
      refine lv_aload_n hx hb dX7_writesWord_26 rfl (lv_at hl 0 rfl) ?_
      refine lv_iload_n hx hb dX7_writesWord_27 rfl (lv_at hl 1 rfl) ?_
      obtain ⟨r7, q8, h⟩ := bd_o h
      refine r_callSa (rest := [.ref (gad G 0)]) C B.2.2 hl (c_X7_wordOf G v1 r7 q8) cs_X7_205 rfl rfl (Nat.le_of_ble_eq_true rfl) ⟨rfl, rfl, Nat.le_of_ble_eq_true rfl, Nat.le_of_ble_eq_true rfl⟩ dX7_writesWord_28 ?_
      refine lv_iload_n hx hb dX7_writesWord_31 rfl (lv_at hl 2 rfl) ?_
      obtain ⟨r9, q10, h⟩ := bd_o h
      refine r_callTi (rest := [.ref (gad G 0)]) C B.2.2 hl (txok_charAt q10) rfl (c_TcharAt G r7 v2 r9 q10) cs_X7_198 rfl rfl (Nat.le_of_ble_eq_true rfl) ⟨rfl, rfl, Nat.le_of_ble_eq_true rfl, Nat.le_of_ble_eq_true rfl⟩ dX7_writesWord_32 ?_
      obtain ⟨s12, q11, h⟩ := bd_o h
      refine r_callVv (rest := []) C B hl (c_X7_writes G s0 r9 s12 q11) cs_X7_267 (cM_0 G s0) rfl rfl rfl (Nat.le_of_ble_eq_true rfl) ⟨rfl, rfl, Nat.le_of_ble_eq_true rfl, Nat.le_of_ble_eq_true rfl⟩ dX7_writesWord_35 (fun H locs B => ?_)
      obtain ⟨v2_13, q14, h⟩ := nm_o h
      refine lv_iinc (v := v2_13) (lv' := [(2, .int v2_13), (0, .ref (gad G 0)), (1, .int v1)]) hx hb dX7_writesWord_38 hl (k := 2) rfl q14.symm (by decide) rfl (fun ls hl => ?_)
      refine lv_goto (tgt := 15) hx hb dX7_writesWord_41 (by decide) ?_
      exact ih v2_13 s12 e1 h hk H locs ls B (lv_sub hl [1, 2, 0] rfl)
set_option maxRecDepth 100000 in
set_option maxHeartbeats 4000000 in
theorem c_X7_writesWord (G : GT) (n : Nat) (s0 : ST) (v1 : Int32) (s' : ST) (h : X7_writesWord n s0 v1 = some s') : Con G yX7_writesWord cX7_writesWord 3 none rm_X7_writesWord [.ref (gad G 0), .int v1] (wM G s0) none (wM G s') := by
  unfold X7_writesWord at h
  refine con_of (by decide +kernel) (Nat.le_of_ble_eq_true rfl) (fun {p e s m below meth c} C hr {H locs ls} B hl => ?_)
  have hx := C.1
  have hb := C.2.1
  have hl : lv_has ls 3 [(0, .ref (gad G 0)), (1, .int v1)] := hl
  refine lv_aload_n hx hb dX7_writesWord_0 rfl (lv_at hl 0 rfl) ?_
  refine r_get C B fo_X7_264 (cM_0 G s0) rfl dX7_writesWord_1 ?_
  refine lv_if_le (tgt := 13) hx hb dX7_writesWord_4 (by decide) (fun q1 => ?_) (fun q1 => ?_)
  · have h := ip h q1
    refine lv_iconst (v := (0 : Int32)) hx hb dX7_writesWord_13 rfl ?_
    refine lv_istore_n (lv' := [(2, .int (0 : Int32)), (0, .ref (gad G 0)), (1, .int v1)]) hx hb dX7_writesWord_14 rfl hl (by decide) rfl (fun ls hl => ?_)
    obtain ⟨e15, q16, h⟩ := bd_o h
    refine l_X7_writesWord_L1 C hr v1 n (0 : Int32) s0 e15 q16 ?_ H locs ls B (lv_sub hl [1, 2, 0] rfl)
    intro H locs ls B hl
    obtain rfl := ret1 h
    exact r_vret C B hr dX7_writesWord_44
  · have h := ig h q1
    refine lv_aload_n hx hb dX7_writesWord_7 rfl (lv_at hl 0 rfl) ?_
    refine lv_bipush (v := (59 : Int32)) hx hb dX7_writesWord_8 rfl ?_
    obtain ⟨s18, q17, h⟩ := bd_o h
    refine r_callVv (rest := []) C B hl (c_X7_writes G s0 (59 : Int32) s18 q17) cs_X7_267 (cM_0 G s0) rfl rfl rfl (Nat.le_of_ble_eq_true rfl) ⟨rfl, rfl, Nat.le_of_ble_eq_true rfl, Nat.le_of_ble_eq_true rfl⟩ dX7_writesWord_10 (fun H locs B => ?_)
    refine lv_iconst (v := (0 : Int32)) hx hb dX7_writesWord_13 rfl ?_
    refine lv_istore_n (lv' := [(2, .int (0 : Int32)), (0, .ref (gad G 0)), (1, .int v1)]) hx hb dX7_writesWord_14 rfl hl (by decide) rfl (fun ls hl => ?_)
    obtain ⟨e19, q20, h⟩ := bd_o h
    refine l_X7_writesWord_L1 C hr v1 n (0 : Int32) s18 e19 q20 ?_ H locs ls B (lv_sub hl [1, 2, 0] rfl)
    intro H locs ls B hl
    obtain rfl := ret1 h
    exact r_vret C B hr dX7_writesWord_44
def rm_X7_writesNumber : Room := { frames := 1, cells := 0, slots := 0, locals := 21 }
set_option maxRecDepth 100000 in
set_option maxHeartbeats 4000000 in
theorem c_X7_writesNumber (G : GT) (s0 : ST) (v1 : Int32) (s' : ST) (h : X7_writesNumber s0 v1 = some s') : Con G yX7_writesNumber cX7_writesNumber 2 none rm_X7_writesNumber [.ref (gad G 0), .int v1] (wM G s0) none (wM G s') := by
  unfold X7_writesNumber at h
  refine con_of (by decide +kernel) (Nat.le_of_ble_eq_true rfl) (fun {p e s m below meth c} C hr {H locs ls} B hl => ?_)
  have hx := C.1
  have hb := C.2.1
  have hl : lv_has ls 2 [(0, .ref (gad G 0)), (1, .int v1)] := hl
  refine lv_aload_n hx hb dX7_writesNumber_0 rfl (lv_at hl 0 rfl) ?_
  refine lv_bipush (v := (32 : Int32)) hx hb dX7_writesNumber_1 rfl ?_
  obtain ⟨s2, q1, h⟩ := bd_o h
  refine r_callVv (rest := []) C B hl (c_X7_writes G s0 (32 : Int32) s2 q1) cs_X7_267 (cM_0 G s0) rfl rfl rfl (Nat.le_of_ble_eq_true rfl) ⟨rfl, rfl, Nat.le_of_ble_eq_true rfl, Nat.le_of_ble_eq_true rfl⟩ dX7_writesNumber_3 (fun H locs B => ?_)
  refine lv_iload_n hx hb dX7_writesNumber_6 rfl (lv_at hl 1 rfl) ?_
  refine lv_bipush (v := (10 : Int32)) hx hb dX7_writesNumber_7 rfl ?_
  refine lv_icmp_lt (tgt := 23) hx hb dX7_writesNumber_9 (by decide) (fun q3 => ?_) (fun q3 => ?_)
  · have h := ip h q3
    refine lv_aload_n hx hb dX7_writesNumber_23 rfl (lv_at hl 0 rfl) ?_
    refine lv_bipush (v := (48 : Int32)) hx hb dX7_writesNumber_24 rfl ?_
    refine lv_iload_n hx hb dX7_writesNumber_26 rfl (lv_at hl 1 rfl) ?_
    refine lv_bipush (v := (10 : Int32)) hx hb dX7_writesNumber_27 rfl ?_
    refine lv_irem hx hb dX7_writesNumber_29 (by decide) ?_
    refine lv_iadd hx hb dX7_writesNumber_30 ?_
    obtain ⟨s5, q4, h⟩ := bd_o h
    refine r_callVv (rest := []) C B hl (c_X7_writes G s2 ((48 : Int32) + (v1 - v1 / (10 : Int32) * (10 : Int32))) s5 q4) cs_X7_267 (cM_0 G s2) rfl rfl rfl (Nat.le_of_ble_eq_true rfl) ⟨rfl, rfl, Nat.le_of_ble_eq_true rfl, Nat.le_of_ble_eq_true rfl⟩ dX7_writesNumber_31 (fun H locs B => ?_)
    obtain rfl := ret1 h
    exact r_vret C B hr dX7_writesNumber_34
  · have h := ig h q3
    refine lv_aload_n hx hb dX7_writesNumber_12 rfl (lv_at hl 0 rfl) ?_
    refine lv_bipush (v := (48 : Int32)) hx hb dX7_writesNumber_13 rfl ?_
    refine lv_iload_n hx hb dX7_writesNumber_15 rfl (lv_at hl 1 rfl) ?_
    refine lv_bipush (v := (10 : Int32)) hx hb dX7_writesNumber_16 rfl ?_
    refine lv_idiv hx hb dX7_writesNumber_18 (by decide) ?_
    refine lv_iadd hx hb dX7_writesNumber_19 ?_
    obtain ⟨s7, q6, h⟩ := bd_o h
    refine r_callVv (rest := []) C B hl (c_X7_writes G s2 ((48 : Int32) + (v1 / (10 : Int32))) s7 q6) cs_X7_267 (cM_0 G s2) rfl rfl rfl (Nat.le_of_ble_eq_true rfl) ⟨rfl, rfl, Nat.le_of_ble_eq_true rfl, Nat.le_of_ble_eq_true rfl⟩ dX7_writesNumber_20 (fun H locs B => ?_)
    refine lv_aload_n hx hb dX7_writesNumber_23 rfl (lv_at hl 0 rfl) ?_
    refine lv_bipush (v := (48 : Int32)) hx hb dX7_writesNumber_24 rfl ?_
    refine lv_iload_n hx hb dX7_writesNumber_26 rfl (lv_at hl 1 rfl) ?_
    refine lv_bipush (v := (10 : Int32)) hx hb dX7_writesNumber_27 rfl ?_
    refine lv_irem hx hb dX7_writesNumber_29 (by decide) ?_
    refine lv_iadd hx hb dX7_writesNumber_30 ?_
    obtain ⟨s9, q8, h⟩ := bd_o h
    refine r_callVv (rest := []) C B hl (c_X7_writes G s7 ((48 : Int32) + (v1 - v1 / (10 : Int32) * (10 : Int32))) s9 q8) cs_X7_267 (cM_0 G s7) rfl rfl rfl (Nat.le_of_ble_eq_true rfl) ⟨rfl, rfl, Nat.le_of_ble_eq_true rfl, Nat.le_of_ble_eq_true rfl⟩ dX7_writesNumber_31 (fun H locs B => ?_)
    obtain rfl := ret1 h
    exact r_vret C B hr dX7_writesNumber_34
def rm_X7_spells : Room := { frames := 5, cells := 0, slots := 0, locals := 107 }
set_option maxRecDepth 100000 in
set_option maxHeartbeats 4000000 in
theorem l_X7_spells_L2 {G : GT} {p : Program} {e : Env} {s : State} {m : MethodId} {args : Array Value} {below : List Frame} {meth : Method} {c : Code} {Q : State → Prop} (C : CT G p s m meth c args cX7_spells 3 RX7) (hr : meth.sig.returnType = none) (n : Nat) (v1 : Int32) : ∀ (k : Nat) (v2 : Int32) (s0 : ST) (e1 : ST), X7_spells_L2 n v1 k v2 s0 = some e1 → Kn G p e rm_X7_spells s m args below meth c Q 3 72 [(0, .ref (gad G 0)), (1, .int v1)] (wM G e1) → Kn G p e rm_X7_spells s m args below meth c Q 3 30 [(0, .ref (gad G 0)), (1, .int v1), (2, .int v2)] (wM G s0) := by
  have hx := C.1
  have hb := C.2.1
  intro k
  induction k with
  | zero =>
    intro v2 s0 e1 h
    exact nso h
  | succ k ih =>
    intro v2 s0 e1 h hk H locs ls B hl
    have h : X7_spells_L2_b n v1 (X7_spells_L2 n v1 k) v2 s0 = some e1 := h
    unfold X7_spells_L2_b at h
    refine lv_iload_n hx hb dX7_spells_30 rfl (lv_at hl 2 rfl) ?_
    refine lv_aload_n hx hb dX7_spells_31 rfl (lv_at hl 0 rfl) ?_
    refine r_get C B fo_X7_7 (cM_0 G s0) rfl dX7_spells_32 ?_
    refine lv_icmp_ge (tgt := 72) hx hb dX7_spells_35 (by decide) (fun q8 => ?_) (fun q8 => ?_)
    · have h := ip h q8
      obtain rfl := ret1 h
      exact hk H locs ls B (lv_sub hl [0, 1] rfl)
    · have h := ig h q8
      refine lv_aload_n hx hb dX7_spells_38 rfl (lv_at hl 0 rfl) ?_
      refine r_get C B fo_X7_13 (cM_0 G s0) rfl dX7_spells_39 ?_
      refine lv_iload_n hx hb dX7_spells_42 rfl (lv_at hl 1 rfl) ?_
      obtain ⟨q9, h⟩ := gd_o h
      refine r_iald C B (cM_1 G s0) (inb_vp q9) dX7_spells_43 ?_
      refine lv_iload_n hx hb dX7_spells_44 rfl (lv_at hl 2 rfl) ?_
      obtain ⟨r10, q11, h⟩ := bd_o h
      refine r_callSi (rest := []) C B.2.2 hl (c_X7_has G (s0.2.1 0 (v1).toNatClampNeg) v2 r10 q11) cs_X7_77 rfl rfl (Nat.le_of_ble_eq_true rfl) ⟨rfl, rfl, Nat.le_of_ble_eq_true rfl, Nat.le_of_ble_eq_true rfl⟩ dX7_spells_45 ?_
      refine lv_if_eq (tgt := 66) hx hb dX7_spells_48 (by decide) (fun q12 => ?_) (fun q12 => ?_)
      · have h := ip h q12
        obtain ⟨v2_13, q14, h⟩ := nm_o h
        refine lv_iinc (v := v2_13) (lv' := [(2, .int v2_13), (0, .ref (gad G 0)), (1, .int v1)]) hx hb dX7_spells_66 hl (k := 2) rfl q14.symm (by decide) rfl (fun ls hl => ?_)
        refine lv_goto (tgt := 30) hx hb dX7_spells_69 (by decide) ?_
        exact ih v2_13 s0 e1 h hk H locs ls B (lv_sub hl [1, 2, 0] rfl)
      · have h := ig h q12
        refine lv_aload_n hx hb dX7_spells_51 rfl (lv_at hl 0 rfl) ?_
        refine lv_iconst (v := (1 : Int32)) hx hb dX7_spells_52 rfl ?_
        obtain ⟨s16, q15, h⟩ := bd_o h
        refine r_callVv (rest := []) C B hl (c_X7_writesWord G n s0 (1 : Int32) s16 q15) cs_X7_270 (cM_0 G s0) rfl rfl rfl (Nat.le_of_ble_eq_true rfl) ⟨rfl, rfl, Nat.le_of_ble_eq_true rfl, Nat.le_of_ble_eq_true rfl⟩ dX7_spells_53 (fun H locs B => ?_)
        refine lv_aload_n hx hb dX7_spells_56 rfl (lv_at hl 0 rfl) ?_
        refine lv_iload_n hx hb dX7_spells_57 rfl (lv_at hl 1 rfl) ?_
        obtain ⟨s18, q17, h⟩ := bd_o h
        refine r_callVv (rest := []) C B hl (c_X7_writesNumber G s16 v1 s18 q17) cs_X7_273 (cM_0 G s16) rfl rfl rfl (Nat.le_of_ble_eq_true rfl) ⟨rfl, rfl, Nat.le_of_ble_eq_true rfl, Nat.le_of_ble_eq_true rfl⟩ dX7_spells_58 (fun H locs B => ?_)
        refine lv_aload_n hx hb dX7_spells_61 rfl (lv_at hl 0 rfl) ?_
        refine lv_iload_n hx hb dX7_spells_62 rfl (lv_at hl 2 rfl) ?_
        obtain ⟨s20, q19, h⟩ := bd_o h
        refine r_callVv (rest := []) C B hl (c_X7_writesNumber G s18 v2 s20 q19) cs_X7_273 (cM_0 G s18) rfl rfl rfl (Nat.le_of_ble_eq_true rfl) ⟨rfl, rfl, Nat.le_of_ble_eq_true rfl, Nat.le_of_ble_eq_true rfl⟩ dX7_spells_63 (fun H locs B => ?_)
        obtain ⟨v2_21, q22, h⟩ := nm_o h
        refine lv_iinc (v := v2_21) (lv' := [(2, .int v2_21), (0, .ref (gad G 0)), (1, .int v1)]) hx hb dX7_spells_66 hl (k := 2) rfl q22.symm (by decide) rfl (fun ls hl => ?_)
        refine lv_goto (tgt := 30) hx hb dX7_spells_69 (by decide) ?_
        exact ih v2_21 s20 e1 h hk H locs ls B (lv_sub hl [1, 2, 0] rfl)
set_option maxRecDepth 100000 in
set_option maxHeartbeats 4000000 in
theorem l_X7_spells_L1 {G : GT} {p : Program} {e : Env} {s : State} {m : MethodId} {args : Array Value} {below : List Frame} {meth : Method} {c : Code} {Q : State → Prop} (C : CT G p s m meth c args cX7_spells 3 RX7) (hr : meth.sig.returnType = none) (n : Nat) : ∀ (k : Nat) (v1 : Int32) (s0 : ST) (e1 : ST), X7_spells_L1 n k v1 s0 = some e1 → Kn G p e rm_X7_spells s m args below meth c Q 3 78 [(0, .ref (gad G 0))] (wM G e1) → Kn G p e rm_X7_spells s m args below meth c Q 3 20 [(0, .ref (gad G 0)), (1, .int v1)] (wM G s0) := by
  have hx := C.1
  have hb := C.2.1
  intro k
  induction k with
  | zero =>
    intro v1 s0 e1 h
    exact nso h
  | succ k ih =>
    intro v1 s0 e1 h hk H locs ls B hl
    have h : X7_spells_L1_b n (X7_spells_L1 n k) v1 s0 = some e1 := h
    unfold X7_spells_L1_b at h
    refine lv_iload_n hx hb dX7_spells_20 rfl (lv_at hl 1 rfl) ?_
    refine lv_aload_n hx hb dX7_spells_21 rfl (lv_at hl 0 rfl) ?_
    refine r_get C B fo_X7_7 (cM_0 G s0) rfl dX7_spells_22 ?_
    refine lv_icmp_ge (tgt := 78) hx hb dX7_spells_25 (by decide) (fun q7 => ?_) (fun q7 => ?_)
    · have h := ip h q7
      obtain rfl := ret1 h
      exact hk H locs ls B (lv_sub hl [0] rfl)
    · have h := ig h q7
      refine lv_iconst (v := (0 : Int32)) hx hb dX7_spells_28 rfl ?_
      refine lv_istore_n (lv' := [(2, .int (0 : Int32)), (0, .ref (gad G 0)), (1, .int v1)]) hx hb dX7_spells_29 rfl hl (by decide) rfl (fun ls hl => ?_)
      obtain ⟨e23, q24, h⟩ := bd_o h
      refine l_X7_spells_L2 C hr n v1 n (0 : Int32) s0 e23 q24 ?_ H locs ls B (lv_sub hl [1, 2, 0] rfl)
      intro H locs ls B hl
      obtain ⟨v1_25, q26, h⟩ := nm_o h
      refine lv_iinc (v := v1_25) (lv' := [(1, .int v1_25), (0, .ref (gad G 0))]) hx hb dX7_spells_72 hl (k := 1) rfl q26.symm (by decide) rfl (fun ls hl => ?_)
      refine lv_goto (tgt := 20) hx hb dX7_spells_75 (by decide) ?_
      exact ih v1_25 e23 e1 h hk H locs ls B (lv_sub hl [1, 0] rfl)
set_option maxRecDepth 100000 in
set_option maxHeartbeats 4000000 in
theorem l_X7_spells_L3 {G : GT} {p : Program} {e : Env} {s : State} {m : MethodId} {args : Array Value} {below : List Frame} {meth : Method} {c : Code} {Q : State → Prop} (C : CT G p s m meth c args cX7_spells 3 RX7) (hr : meth.sig.returnType = none) (n : Nat) : ∀ (k : Nat) (v1 : Int32) (s0 : ST) (e1 : ST), X7_spells_L3 n k v1 s0 = some e1 → Kn G p e rm_X7_spells s m args below meth c Q 3 115 [(0, .ref (gad G 0))] (wM G e1) → Kn G p e rm_X7_spells s m args below meth c Q 3 80 [(0, .ref (gad G 0)), (1, .int v1)] (wM G s0) := by
  have hx := C.1
  have hb := C.2.1
  intro k
  induction k with
  | zero =>
    intro v1 s0 e1 h
    exact nso h
  | succ k ih =>
    intro v1 s0 e1 h hk H locs ls B hl
    have h : X7_spells_L3_b n (X7_spells_L3 n k) v1 s0 = some e1 := h
    unfold X7_spells_L3_b at h
    refine lv_iload_n hx hb dX7_spells_80 rfl (lv_at hl 1 rfl) ?_
    refine lv_aload_n hx hb dX7_spells_81 rfl (lv_at hl 0 rfl) ?_
    refine r_get C B fo_X7_7 (cM_0 G s0) rfl dX7_spells_82 ?_
    refine lv_icmp_ge (tgt := 115) hx hb dX7_spells_85 (by decide) (fun q29 => ?_) (fun q29 => ?_)
    · have h := ip h q29
      obtain rfl := ret1 h
      exact hk H locs ls B (lv_sub hl [0] rfl)
    · have h := ig h q29
      refine lv_aload_n hx hb dX7_spells_88 rfl (lv_at hl 0 rfl) ?_
      refine r_get C B fo_X7_74 (cM_0 G s0) rfl dX7_spells_89 ?_
      refine lv_iload_n hx hb dX7_spells_92 rfl (lv_at hl 1 rfl) ?_
      obtain ⟨r30, q31, h⟩ := bd_o h
      refine r_callSi (rest := []) C B.2.2 hl (c_X7_has G (s0.1 1) v1 r30 q31) cs_X7_77 rfl rfl (Nat.le_of_ble_eq_true rfl) ⟨rfl, rfl, Nat.le_of_ble_eq_true rfl, Nat.le_of_ble_eq_true rfl⟩ dX7_spells_93 ?_
      refine lv_if_eq (tgt := 109) hx hb dX7_spells_96 (by decide) (fun q32 => ?_) (fun q32 => ?_)
      · have h := ip h q32
        obtain ⟨v1_33, q34, h⟩ := nm_o h
        refine lv_iinc (v := v1_33) (lv' := [(1, .int v1_33), (0, .ref (gad G 0))]) hx hb dX7_spells_109 hl (k := 1) rfl q34.symm (by decide) rfl (fun ls hl => ?_)
        refine lv_goto (tgt := 80) hx hb dX7_spells_112 (by decide) ?_
        exact ih v1_33 s0 e1 h hk H locs ls B (lv_sub hl [1, 0] rfl)
      · have h := ig h q32
        refine lv_aload_n hx hb dX7_spells_99 rfl (lv_at hl 0 rfl) ?_
        refine lv_iconst (v := (3 : Int32)) hx hb dX7_spells_100 rfl ?_
        obtain ⟨s36, q35, h⟩ := bd_o h
        refine r_callVv (rest := []) C B hl (c_X7_writesWord G n s0 (3 : Int32) s36 q35) cs_X7_270 (cM_0 G s0) rfl rfl rfl (Nat.le_of_ble_eq_true rfl) ⟨rfl, rfl, Nat.le_of_ble_eq_true rfl, Nat.le_of_ble_eq_true rfl⟩ dX7_spells_101 (fun H locs B => ?_)
        refine lv_aload_n hx hb dX7_spells_104 rfl (lv_at hl 0 rfl) ?_
        refine lv_iload_n hx hb dX7_spells_105 rfl (lv_at hl 1 rfl) ?_
        obtain ⟨s38, q37, h⟩ := bd_o h
        refine r_callVv (rest := []) C B hl (c_X7_writesNumber G s36 v1 s38 q37) cs_X7_273 (cM_0 G s36) rfl rfl rfl (Nat.le_of_ble_eq_true rfl) ⟨rfl, rfl, Nat.le_of_ble_eq_true rfl, Nat.le_of_ble_eq_true rfl⟩ dX7_spells_106 (fun H locs B => ?_)
        obtain ⟨v1_39, q40, h⟩ := nm_o h
        refine lv_iinc (v := v1_39) (lv' := [(1, .int v1_39), (0, .ref (gad G 0))]) hx hb dX7_spells_109 hl (k := 1) rfl q40.symm (by decide) rfl (fun ls hl => ?_)
        refine lv_goto (tgt := 80) hx hb dX7_spells_112 (by decide) ?_
        exact ih v1_39 s38 e1 h hk H locs ls B (lv_sub hl [1, 0] rfl)
set_option maxRecDepth 100000 in
set_option maxHeartbeats 4000000 in
theorem l_X7_spells_L5 {G : GT} {p : Program} {e : Env} {s : State} {m : MethodId} {args : Array Value} {below : List Frame} {meth : Method} {c : Code} {Q : State → Prop} (C : CT G p s m meth c args cX7_spells 3 RX7) (hr : meth.sig.returnType = none) (v1 : Int32) : ∀ (k : Nat) (v2 : Int32) (s0 : ST) (e1 : ST), X7_spells_L5 v1 k v2 s0 = some e1 → Kn G p e rm_X7_spells s m args below meth c Q 3 164 [(0, .ref (gad G 0)), (1, .int v1)] (wM G e1) → Kn G p e rm_X7_spells s m args below meth c Q 3 132 [(0, .ref (gad G 0)), (1, .int v1), (2, .int v2)] (wM G s0) := by
  have hx := C.1
  have hb := C.2.1
  intro k
  induction k with
  | zero =>
    intro v2 s0 e1 h
    exact nso h
  | succ k ih =>
    intro v2 s0 e1 h hk H locs ls B hl
    have h : X7_spells_L5_b v1 (X7_spells_L5 v1 k) v2 s0 = some e1 := h
    unfold X7_spells_L5_b at h
    refine lv_iload_n hx hb dX7_spells_132 rfl (lv_at hl 2 rfl) ?_
    refine lv_aload_n hx hb dX7_spells_133 rfl (lv_at hl 0 rfl) ?_
    refine r_get C B fo_X7_7 (cM_0 G s0) rfl dX7_spells_134 ?_
    refine lv_icmp_ge (tgt := 164) hx hb dX7_spells_137 (by decide) (fun q46 => ?_) (fun q46 => ?_)
    · have h := ip h q46
      obtain rfl := ret1 h
      exact hk H locs ls B (lv_sub hl [0, 1] rfl)
    · have h := ig h q46
      refine lv_aload_n hx hb dX7_spells_140 rfl (lv_at hl 0 rfl) ?_
      refine r_get C B fo_X7_20 (cM_0 G s0) rfl dX7_spells_141 ?_
      refine lv_iload_n hx hb dX7_spells_144 rfl (lv_at hl 1 rfl) ?_
      obtain ⟨q47, h⟩ := gd_o h
      refine r_iald C B (cM_3 G s0) (inb_vp q47) dX7_spells_145 ?_
      refine lv_iload_n hx hb dX7_spells_146 rfl (lv_at hl 2 rfl) ?_
      obtain ⟨r48, q49, h⟩ := bd_o h
      refine r_callSi (rest := []) C B.2.2 hl (c_X7_has G (s0.2.1 2 (v1).toNatClampNeg) v2 r48 q49) cs_X7_77 rfl rfl (Nat.le_of_ble_eq_true rfl) ⟨rfl, rfl, Nat.le_of_ble_eq_true rfl, Nat.le_of_ble_eq_true rfl⟩ dX7_spells_147 ?_
      refine lv_if_eq (tgt := 158) hx hb dX7_spells_150 (by decide) (fun q50 => ?_) (fun q50 => ?_)
      · have h := ip h q50
        obtain ⟨v2_51, q52, h⟩ := nm_o h
        refine lv_iinc (v := v2_51) (lv' := [(2, .int v2_51), (0, .ref (gad G 0)), (1, .int v1)]) hx hb dX7_spells_158 hl (k := 2) rfl q52.symm (by decide) rfl (fun ls hl => ?_)
        refine lv_goto (tgt := 132) hx hb dX7_spells_161 (by decide) ?_
        exact ih v2_51 s0 e1 h hk H locs ls B (lv_sub hl [1, 2, 0] rfl)
      · have h := ig h q50
        refine lv_aload_n hx hb dX7_spells_153 rfl (lv_at hl 0 rfl) ?_
        refine lv_iload_n hx hb dX7_spells_154 rfl (lv_at hl 2 rfl) ?_
        obtain ⟨s54, q53, h⟩ := bd_o h
        refine r_callVv (rest := []) C B hl (c_X7_writesNumber G s0 v2 s54 q53) cs_X7_273 (cM_0 G s0) rfl rfl rfl (Nat.le_of_ble_eq_true rfl) ⟨rfl, rfl, Nat.le_of_ble_eq_true rfl, Nat.le_of_ble_eq_true rfl⟩ dX7_spells_155 (fun H locs B => ?_)
        obtain ⟨v2_55, q56, h⟩ := nm_o h
        refine lv_iinc (v := v2_55) (lv' := [(2, .int v2_55), (0, .ref (gad G 0)), (1, .int v1)]) hx hb dX7_spells_158 hl (k := 2) rfl q56.symm (by decide) rfl (fun ls hl => ?_)
        refine lv_goto (tgt := 132) hx hb dX7_spells_161 (by decide) ?_
        exact ih v2_55 s54 e1 h hk H locs ls B (lv_sub hl [1, 2, 0] rfl)
set_option maxRecDepth 100000 in
set_option maxHeartbeats 4000000 in
theorem l_X7_spells_L4 {G : GT} {p : Program} {e : Env} {s : State} {m : MethodId} {args : Array Value} {below : List Frame} {meth : Method} {c : Code} {Q : State → Prop} (C : CT G p s m meth c args cX7_spells 3 RX7) (hr : meth.sig.returnType = none) (n : Nat) : ∀ (k : Nat) (v1 : Int32) (s0 : ST) (e1 : ST), X7_spells_L4 n k v1 s0 = some e1 → Kn G p e rm_X7_spells s m args below meth c Q 3 170 [(0, .ref (gad G 0))] (wM G e1) → Kn G p e rm_X7_spells s m args below meth c Q 3 117 [(0, .ref (gad G 0)), (1, .int v1)] (wM G s0) := by
  have hx := C.1
  have hb := C.2.1
  intro k
  induction k with
  | zero =>
    intro v1 s0 e1 h
    exact nso h
  | succ k ih =>
    intro v1 s0 e1 h hk H locs ls B hl
    have h : X7_spells_L4_b n (X7_spells_L4 n k) v1 s0 = some e1 := h
    unfold X7_spells_L4_b at h
    refine lv_iload_n hx hb dX7_spells_117 rfl (lv_at hl 1 rfl) ?_
    refine lv_aload_n hx hb dX7_spells_118 rfl (lv_at hl 0 rfl) ?_
    refine r_get C B fo_X7_71 (cM_0 G s0) rfl dX7_spells_119 ?_
    refine lv_icmp_ge (tgt := 170) hx hb dX7_spells_122 (by decide) (fun q43 => ?_) (fun q43 => ?_)
    · have h := ip h q43
      obtain rfl := ret1 h
      exact hk H locs ls B (lv_sub hl [0] rfl)
    · have h := ig h q43
      refine lv_aload_n hx hb dX7_spells_125 rfl (lv_at hl 0 rfl) ?_
      refine lv_iconst (v := (4 : Int32)) hx hb dX7_spells_126 rfl ?_
      obtain ⟨s45, q44, h⟩ := bd_o h
      refine r_callVv (rest := []) C B hl (c_X7_writesWord G n s0 (4 : Int32) s45 q44) cs_X7_270 (cM_0 G s0) rfl rfl rfl (Nat.le_of_ble_eq_true rfl) ⟨rfl, rfl, Nat.le_of_ble_eq_true rfl, Nat.le_of_ble_eq_true rfl⟩ dX7_spells_127 (fun H locs B => ?_)
      refine lv_iconst (v := (0 : Int32)) hx hb dX7_spells_130 rfl ?_
      refine lv_istore_n (lv' := [(2, .int (0 : Int32)), (0, .ref (gad G 0)), (1, .int v1)]) hx hb dX7_spells_131 rfl hl (by decide) rfl (fun ls hl => ?_)
      obtain ⟨e57, q58, h⟩ := bd_o h
      refine l_X7_spells_L5 C hr v1 n (0 : Int32) s45 e57 q58 ?_ H locs ls B (lv_sub hl [1, 2, 0] rfl)
      intro H locs ls B hl
      obtain ⟨v1_59, q60, h⟩ := nm_o h
      refine lv_iinc (v := v1_59) (lv' := [(1, .int v1_59), (0, .ref (gad G 0))]) hx hb dX7_spells_164 hl (k := 1) rfl q60.symm (by decide) rfl (fun ls hl => ?_)
      refine lv_goto (tgt := 117) hx hb dX7_spells_167 (by decide) ?_
      exact ih v1_59 e57 e1 h hk H locs ls B (lv_sub hl [1, 0] rfl)
set_option maxRecDepth 100000 in
set_option maxHeartbeats 4000000 in
theorem l_X7_spells_L6 {G : GT} {p : Program} {e : Env} {s : State} {m : MethodId} {args : Array Value} {below : List Frame} {meth : Method} {c : Code} {Q : State → Prop} (C : CT G p s m meth c args cX7_spells 3 RX7) (hr : meth.sig.returnType = none) (n : Nat) : ∀ (k : Nat) (v1 : Int32) (s0 : ST) (e1 : ST), X7_spells_L6 n k v1 s0 = some e1 → Kn G p e rm_X7_spells s m args below meth c Q 3 215 [] (wM G e1) → Kn G p e rm_X7_spells s m args below meth c Q 3 172 [(0, .ref (gad G 0)), (1, .int v1)] (wM G s0) := by
  have hx := C.1
  have hb := C.2.1
  intro k
  induction k with
  | zero =>
    intro v1 s0 e1 h
    exact nso h
  | succ k ih =>
    intro v1 s0 e1 h hk H locs ls B hl
    have h : X7_spells_L6_b n (X7_spells_L6 n k) v1 s0 = some e1 := h
    unfold X7_spells_L6_b at h
    refine lv_iload_n hx hb dX7_spells_172 rfl (lv_at hl 1 rfl) ?_
    refine lv_aload_n hx hb dX7_spells_173 rfl (lv_at hl 0 rfl) ?_
    refine r_get C B fo_X7_7 (cM_0 G s0) rfl dX7_spells_174 ?_
    refine lv_icmp_ge (tgt := 215) hx hb dX7_spells_177 (by decide) (fun q63 => ?_) (fun q63 => ?_)
    · have h := ip h q63
      obtain rfl := ret1 h
      exact hk H locs ls B (lv_sub hl [] rfl)
    · have h := ig h q63
      refine lv_aload_n hx hb dX7_spells_180 rfl (lv_at hl 0 rfl) ?_
      refine r_get C B fo_X7_17 (cM_0 G s0) rfl dX7_spells_181 ?_
      refine lv_iload_n hx hb dX7_spells_184 rfl (lv_at hl 1 rfl) ?_
      obtain ⟨q64, h⟩ := gd_o h
      refine r_iald C B (cM_2 G s0) (inb_vp q64) dX7_spells_185 ?_
      refine lv_if_le (tgt := 209) hx hb dX7_spells_186 (by decide) (fun q65 => ?_) (fun q65 => ?_)
      · have h := ip h q65
        obtain ⟨v1_66, q67, h⟩ := nm_o h
        refine lv_iinc (v := v1_66) (lv' := [(1, .int v1_66), (0, .ref (gad G 0))]) hx hb dX7_spells_209 hl (k := 1) rfl q67.symm (by decide) rfl (fun ls hl => ?_)
        refine lv_goto (tgt := 172) hx hb dX7_spells_212 (by decide) ?_
        exact ih v1_66 s0 e1 h hk H locs ls B (lv_sub hl [1, 0] rfl)
      · have h := ig h q65
        refine lv_aload_n hx hb dX7_spells_189 rfl (lv_at hl 0 rfl) ?_
        refine lv_iconst (v := (5 : Int32)) hx hb dX7_spells_190 rfl ?_
        obtain ⟨s69, q68, h⟩ := bd_o h
        refine r_callVv (rest := []) C B hl (c_X7_writesWord G n s0 (5 : Int32) s69 q68) cs_X7_270 (cM_0 G s0) rfl rfl rfl (Nat.le_of_ble_eq_true rfl) ⟨rfl, rfl, Nat.le_of_ble_eq_true rfl, Nat.le_of_ble_eq_true rfl⟩ dX7_spells_191 (fun H locs B => ?_)
        refine lv_aload_n hx hb dX7_spells_194 rfl (lv_at hl 0 rfl) ?_
        refine lv_iload_n hx hb dX7_spells_195 rfl (lv_at hl 1 rfl) ?_
        obtain ⟨s71, q70, h⟩ := bd_o h
        refine r_callVv (rest := []) C B hl (c_X7_writesNumber G s69 v1 s71 q70) cs_X7_273 (cM_0 G s69) rfl rfl rfl (Nat.le_of_ble_eq_true rfl) ⟨rfl, rfl, Nat.le_of_ble_eq_true rfl, Nat.le_of_ble_eq_true rfl⟩ dX7_spells_196 (fun H locs B => ?_)
        refine lv_aload_n hx hb dX7_spells_199 rfl (lv_at hl 0 rfl) ?_
        refine lv_aload_n hx hb dX7_spells_200 rfl (lv_at hl 0 rfl) ?_
        refine r_get C B fo_X7_17 (cM_0 G s71) rfl dX7_spells_201 ?_
        refine lv_iload_n hx hb dX7_spells_204 rfl (lv_at hl 1 rfl) ?_
        obtain ⟨q72, h⟩ := gd_o h
        refine r_iald C B (cM_2 G s71) (inb_vp q72) dX7_spells_205 ?_
        obtain ⟨s74, q73, h⟩ := bd_o h
        refine r_callVv (rest := []) C B hl (c_X7_writesNumber G s71 (s71.2.1 1 (v1).toNatClampNeg) s74 q73) cs_X7_273 (cM_0 G s71) rfl rfl rfl (Nat.le_of_ble_eq_true rfl) ⟨rfl, rfl, Nat.le_of_ble_eq_true rfl, Nat.le_of_ble_eq_true rfl⟩ dX7_spells_206 (fun H locs B => ?_)
        obtain ⟨v1_75, q76, h⟩ := nm_o h
        refine lv_iinc (v := v1_75) (lv' := [(1, .int v1_75), (0, .ref (gad G 0))]) hx hb dX7_spells_209 hl (k := 1) rfl q76.symm (by decide) rfl (fun ls hl => ?_)
        refine lv_goto (tgt := 172) hx hb dX7_spells_212 (by decide) ?_
        exact ih v1_75 s74 e1 h hk H locs ls B (lv_sub hl [1, 0] rfl)
set_option maxRecDepth 100000 in
set_option maxHeartbeats 4000000 in
theorem c_X7_spells (G : GT) (n : Nat) (s0 : ST)  (s' : ST) (h : X7_spells n s0  = some s') : Con G yX7_spells cX7_spells 3 none rm_X7_spells [.ref (gad G 0)] (wM G s0) none (wM G s') := by
  unfold X7_spells at h
  refine con_of (by decide +kernel) (Nat.le_of_ble_eq_true rfl) (fun {p e s m below meth c} C hr {H locs ls} B hl => ?_)
  have hx := C.1
  have hb := C.2.1
  have hl : lv_has ls 3 [(0, .ref (gad G 0))] := hl
  refine lv_aload_n hx hb dX7_spells_0 rfl (lv_at hl 0 rfl) ?_
  refine lv_iconst (v := (0 : Int32)) hx hb dX7_spells_1 rfl ?_
  obtain ⟨s1, q2, h⟩ := nm_o h
  refine r_put C B fp_X7_264 (cM_0 G s0) (Nat.le_of_ble_eq_true rfl) rfl rfl ((uMs_11 G s0 _).trans (congrArg (wM G) q2.symm)) dX7_spells_2 (fun H locs B => ?_)
  refine lv_aload_n hx hb dX7_spells_5 rfl (lv_at hl 0 rfl) ?_
  refine lv_iconst (v := (0 : Int32)) hx hb dX7_spells_6 rfl ?_
  obtain ⟨s4, q3, h⟩ := bd_o h
  refine r_callVv (rest := []) C B hl (c_X7_writesWord G n s1 (0 : Int32) s4 q3) cs_X7_270 (cM_0 G s1) rfl rfl rfl (Nat.le_of_ble_eq_true rfl) ⟨rfl, rfl, Nat.le_of_ble_eq_true rfl, Nat.le_of_ble_eq_true rfl⟩ dX7_spells_7 (fun H locs B => ?_)
  refine lv_aload_n hx hb dX7_spells_10 rfl (lv_at hl 0 rfl) ?_
  refine lv_aload_n hx hb dX7_spells_11 rfl (lv_at hl 0 rfl) ?_
  refine r_get C B fo_X7_7 (cM_0 G s4) rfl dX7_spells_12 ?_
  obtain ⟨s6, q5, h⟩ := bd_o h
  refine r_callVv (rest := []) C B hl (c_X7_writesNumber G s4 (s4.1 0) s6 q5) cs_X7_273 (cM_0 G s4) rfl rfl rfl (Nat.le_of_ble_eq_true rfl) ⟨rfl, rfl, Nat.le_of_ble_eq_true rfl, Nat.le_of_ble_eq_true rfl⟩ dX7_spells_15 (fun H locs B => ?_)
  refine lv_iconst (v := (0 : Int32)) hx hb dX7_spells_18 rfl ?_
  refine lv_istore_n (lv' := [(1, .int (0 : Int32)), (0, .ref (gad G 0))]) hx hb dX7_spells_19 rfl hl (by decide) rfl (fun ls hl => ?_)
  obtain ⟨e27, q28, h⟩ := bd_o h
  refine l_X7_spells_L1 C hr n n (0 : Int32) s6 e27 q28 ?_ H locs ls B (lv_sub hl [1, 0] rfl)
  intro H locs ls B hl
  refine lv_iconst (v := (0 : Int32)) hx hb dX7_spells_78 rfl ?_
  refine lv_istore_n (lv' := [(1, .int (0 : Int32)), (0, .ref (gad G 0))]) hx hb dX7_spells_79 rfl hl (by decide) rfl (fun ls hl => ?_)
  obtain ⟨e41, q42, h⟩ := bd_o h
  refine l_X7_spells_L3 C hr n n (0 : Int32) e27 e41 q42 ?_ H locs ls B (lv_sub hl [1, 0] rfl)
  intro H locs ls B hl
  refine lv_iconst (v := (0 : Int32)) hx hb dX7_spells_115 rfl ?_
  refine lv_istore_n (lv' := [(1, .int (0 : Int32)), (0, .ref (gad G 0))]) hx hb dX7_spells_116 rfl hl (by decide) rfl (fun ls hl => ?_)
  obtain ⟨e61, q62, h⟩ := bd_o h
  refine l_X7_spells_L4 C hr n n (0 : Int32) e41 e61 q62 ?_ H locs ls B (lv_sub hl [1, 0] rfl)
  intro H locs ls B hl
  refine lv_iconst (v := (0 : Int32)) hx hb dX7_spells_170 rfl ?_
  refine lv_istore_n (lv' := [(1, .int (0 : Int32)), (0, .ref (gad G 0))]) hx hb dX7_spells_171 rfl hl (by decide) rfl (fun ls hl => ?_)
  obtain ⟨e77, q78, h⟩ := bd_o h
  refine l_X7_spells_L6 C hr n n (0 : Int32) e61 e77 q78 ?_ H locs ls B (lv_sub hl [1, 0] rfl)
  intro H locs ls B hl
  obtain rfl := ret1 h
  exact r_vret C B hr dX7_spells_215
def rm_X7_spelled : Room := { frames := 6, cells := 0, slots := 0, locals := 129 }
set_option maxRecDepth 100000 in
set_option maxHeartbeats 4000000 in
theorem c_X7_spelled (G : GT) (n : Nat) (s0 : ST) (v1 : Int32) (r : Int32) (s' : ST) (h : X7_spelled n s0 v1 = some (r, s')) : Con G yX7_spelled cX7_spelled 2 (some .int) rm_X7_spelled [.ref (gad G 0), .int v1] (wM G s0) (some (.int r)) (wM G s') := by
  unfold X7_spelled at h
  refine con_of (by decide +kernel) (Nat.le_of_ble_eq_true rfl) (fun {p e s m below meth c} C hr {H locs ls} B hl => ?_)
  have hx := C.1
  have hb := C.2.1
  have hl : lv_has ls 2 [(0, .ref (gad G 0)), (1, .int v1)] := hl
  refine lv_aload_n hx hb dX7_spelled_0 rfl (lv_at hl 0 rfl) ?_
  obtain ⟨s2, q1, h⟩ := bd_o h
  refine r_callVv (rest := []) C B hl (c_X7_spells G n s0 s2 q1) cs_X7_276 (cM_0 G s0) rfl rfl rfl (Nat.le_of_ble_eq_true rfl) ⟨rfl, rfl, Nat.le_of_ble_eq_true rfl, Nat.le_of_ble_eq_true rfl⟩ dX7_spelled_1 (fun H locs B => ?_)
  refine lv_iload_n hx hb dX7_spelled_4 rfl (lv_at hl 1 rfl) ?_
  refine lv_iconst (v := (-1 : Int32)) hx hb dX7_spelled_5 rfl ?_
  refine lv_icmp_ne (tgt := 16) hx hb dX7_spelled_6 (by decide) (fun q3 => ?_) (fun q3 => ?_)
  · have h := ig h q3
    refine lv_iload_n hx hb dX7_spelled_16 rfl (lv_at hl 1 rfl) ?_
    refine lv_iconst (v := (0 : Int32)) hx hb dX7_spelled_17 rfl ?_
    refine lv_aload_n hx hb dX7_spelled_18 rfl (lv_at hl 0 rfl) ?_
    refine r_get C B fo_X7_264 (cM_0 G s2) rfl dX7_spelled_19 ?_
    refine lv_iconst (v := (1 : Int32)) hx hb dX7_spelled_22 rfl ?_
    refine lv_isub hx hb dX7_spelled_23 ?_
    obtain ⟨r4, q5, h⟩ := bd_o h
    refine r_callSi (rest := []) C B.2.2 hl (c_X7_in G v1 (0 : Int32) ((s2.1 11) - (1 : Int32)) r4 q5) cs_X7_63 rfl rfl (Nat.le_of_ble_eq_true rfl) ⟨rfl, rfl, Nat.le_of_ble_eq_true rfl, Nat.le_of_ble_eq_true rfl⟩ dX7_spelled_24 ?_
    refine lv_if_eq (tgt := 39) hx hb dX7_spelled_27 (by decide) (fun q6 => ?_) (fun q6 => ?_)
    · have h := ip h q6
      refine lv_iconst (v := (-1 : Int32)) hx hb dX7_spelled_39 rfl ?_
      obtain ⟨rfl, rfl⟩ := ret2 h
      exact r_iret C B hr rfl dX7_spelled_40
    · have h := ig h q6
      refine lv_aload_n hx hb dX7_spelled_30 rfl (lv_at hl 0 rfl) ?_
      refine r_get C B fo_X7_57 (cM_0 G s2) rfl dX7_spelled_31 ?_
      refine lv_iload_n hx hb dX7_spelled_34 rfl (lv_at hl 1 rfl) ?_
      obtain ⟨q7, h⟩ := gd_o h
      refine r_iald C B (cM_15 G s2) (inb_vp q7) dX7_spelled_35 ?_
      refine lv_goto (tgt := 40) hx hb dX7_spelled_36 (by decide) ?_
      obtain ⟨rfl, rfl⟩ := ret2 h
      exact r_iret C B hr rfl dX7_spelled_40
  · have h := ip h q3
    refine lv_aload_n hx hb dX7_spelled_9 rfl (lv_at hl 0 rfl) ?_
    refine r_get C B fo_X7_264 (cM_0 G s2) rfl dX7_spelled_10 ?_
    refine lv_goto (tgt := 40) hx hb dX7_spelled_13 (by decide) ?_
    obtain ⟨rfl, rfl⟩ := ret2 h
    exact r_iret C B hr rfl dX7_spelled_40
def rm_X7_image : Room := { frames := 0, cells := 0, slots := 0, locals := 0 }
set_option maxRecDepth 100000 in
set_option maxHeartbeats 4000000 in
theorem l_X7_image_L1 {G : GT} {p : Program} {e : Env} {s : State} {m : MethodId} {args : Array Value} {below : List Frame} {meth : Method} {c : Code} {Q : State → Prop} (C : CT G p s m meth c args cX7_image 2 RX7) (hr : meth.sig.returnType = (some .int)) : ∀ (k : Nat) (v1 : Int32) (s0 : ST) (e1 : ST), X7_image_L1  k v1 s0 = some e1 → Kn G p e rm_X7_image s m args below meth c Q 2 61 [(0, .ref (gad G 0))] (wM G e1) → Kn G p e rm_X7_image s m args below meth c Q 2 7 [(0, .ref (gad G 0)), (1, .int v1)] (wM G s0) := by
  have hx := C.1
  have hb := C.2.1
  intro k
  induction k with
  | zero =>
    intro v1 s0 e1 h
    exact nso h
  | succ k ih =>
    intro v1 s0 e1 h hk H locs ls B hl
    have h : X7_image_L1_b  (X7_image_L1  k) v1 s0 = some e1 := h
    unfold X7_image_L1_b at h
    refine lv_iload_n hx hb dX7_image_7 rfl (lv_at hl 1 rfl) ?_
    refine lv_bipush (v := (8 : Int32)) hx hb dX7_image_8 rfl ?_
    refine lv_icmp_ge (tgt := 61) hx hb dX7_image_10 (by decide) (fun q3 => ?_) (fun q3 => ?_)
    · have h := ip h q3
      obtain rfl := ret1 h
      exact hk H locs ls B (lv_sub hl [0] rfl)
    · have h := ig h q3
      refine lv_aload_n hx hb dX7_image_13 rfl (lv_at hl 0 rfl) ?_
      refine r_get C B fo_X7_60 (cM_0 G s0) rfl dX7_image_14 ?_
      refine lv_iload_n hx hb dX7_image_17 rfl (lv_at hl 1 rfl) ?_
      refine lv_aload_n hx hb dX7_image_18 rfl (lv_at hl 0 rfl) ?_
      refine r_get C B fo_X7_13 (cM_0 G s0) rfl dX7_image_19 ?_
      refine lv_iload_n hx hb dX7_image_22 rfl (lv_at hl 1 rfl) ?_
      obtain ⟨q4, h⟩ := gd_o h
      refine r_iald C B (cM_1 G s0) (inb_vp q4) dX7_image_23 ?_
      obtain ⟨q5, h⟩ := gd_o h
      obtain ⟨s6, q7, h⟩ := nm_o h
      refine r_iast C B (cM_16 G s0) (inb_vp q5) ((uMa_15 G s0 _).trans (congrArg (wM G) q7.symm)) dX7_image_24 (fun H locs B => ?_)
      refine lv_aload_n hx hb dX7_image_25 rfl (lv_at hl 0 rfl) ?_
      refine r_get C B fo_X7_60 (cM_0 G s6) rfl dX7_image_26 ?_
      refine lv_bipush (v := (8 : Int32)) hx hb dX7_image_29 rfl ?_
      refine lv_iload_n hx hb dX7_image_31 rfl (lv_at hl 1 rfl) ?_
      refine lv_iadd hx hb dX7_image_32 ?_
      refine lv_aload_n hx hb dX7_image_33 rfl (lv_at hl 0 rfl) ?_
      refine r_get C B fo_X7_17 (cM_0 G s6) rfl dX7_image_34 ?_
      refine lv_iload_n hx hb dX7_image_37 rfl (lv_at hl 1 rfl) ?_
      obtain ⟨q8, h⟩ := gd_o h
      refine r_iald C B (cM_2 G s6) (inb_vp q8) dX7_image_38 ?_
      obtain ⟨q9, h⟩ := gd_o h
      obtain ⟨s10, q11, h⟩ := nm_o h
      refine r_iast C B (cM_16 G s6) (inb_vp q9) ((uMa_15 G s6 _).trans (congrArg (wM G) q11.symm)) dX7_image_39 (fun H locs B => ?_)
      refine lv_aload_n hx hb dX7_image_40 rfl (lv_at hl 0 rfl) ?_
      refine r_get C B fo_X7_60 (cM_0 G s10) rfl dX7_image_41 ?_
      refine lv_bipush (v := (16 : Int32)) hx hb dX7_image_44 rfl ?_
      refine lv_iload_n hx hb dX7_image_46 rfl (lv_at hl 1 rfl) ?_
      refine lv_iadd hx hb dX7_image_47 ?_
      refine lv_aload_n hx hb dX7_image_48 rfl (lv_at hl 0 rfl) ?_
      refine r_get C B fo_X7_20 (cM_0 G s10) rfl dX7_image_49 ?_
      refine lv_iload_n hx hb dX7_image_52 rfl (lv_at hl 1 rfl) ?_
      obtain ⟨q12, h⟩ := gd_o h
      refine r_iald C B (cM_3 G s10) (inb_vp q12) dX7_image_53 ?_
      obtain ⟨q13, h⟩ := gd_o h
      obtain ⟨s14, q15, h⟩ := nm_o h
      refine r_iast C B (cM_16 G s10) (inb_vp q13) ((uMa_15 G s10 _).trans (congrArg (wM G) q15.symm)) dX7_image_54 (fun H locs B => ?_)
      obtain ⟨v1_16, q17, h⟩ := nm_o h
      refine lv_iinc (v := v1_16) (lv' := [(1, .int v1_16), (0, .ref (gad G 0))]) hx hb dX7_image_55 hl (k := 1) rfl q17.symm (by decide) rfl (fun ls hl => ?_)
      refine lv_goto (tgt := 7) hx hb dX7_image_58 (by decide) ?_
      exact ih v1_16 s14 e1 h hk H locs ls B (lv_sub hl [1, 0] rfl)
set_option maxRecDepth 100000 in
set_option maxHeartbeats 4000000 in
theorem c_X7_image (G : GT) (n : Nat) (s0 : ST)  (r : Int32) (s' : ST) (h : X7_image n s0  = some (r, s')) : Con G yX7_image cX7_image 2 (some .int) rm_X7_image [.ref (gad G 0)] (wM G s0) (some (.int r)) (wM G s') := by
  unfold X7_image at h
  refine con_of (by decide +kernel) (Nat.le_of_ble_eq_true rfl) (fun {p e s m below meth c} C hr {H locs ls} B hl => ?_)
  have hx := C.1
  have hb := C.2.1
  have hl : lv_has ls 2 [(0, .ref (gad G 0))] := hl
  refine lv_aload_n hx hb dX7_image_0 rfl (lv_at hl 0 rfl) ?_
  refine lv_iconst (v := (1 : Int32)) hx hb dX7_image_1 rfl ?_
  obtain ⟨s1, q2, h⟩ := nm_o h
  refine r_put C B fp_X7_279 (cM_0 G s0) (Nat.le_of_ble_eq_true rfl) (by decide +kernel) (by decide +kernel) ((uMs_12 G s0 _).trans (congrArg (wM G) q2.symm)) dX7_image_2 (fun H locs B => ?_)
  refine lv_iconst (v := (0 : Int32)) hx hb dX7_image_5 rfl ?_
  refine lv_istore_n (lv' := [(1, .int (0 : Int32)), (0, .ref (gad G 0))]) hx hb dX7_image_6 rfl hl (by decide) rfl (fun ls hl => ?_)
  obtain ⟨e18, q19, h⟩ := bd_o h
  refine l_X7_image_L1 C hr  n (0 : Int32) s1 e18 q19 ?_ H locs ls B (lv_sub hl [1, 0] rfl)
  intro H locs ls B hl
  refine lv_aload_n hx hb dX7_image_61 rfl (lv_at hl 0 rfl) ?_
  refine r_get C B fo_X7_60 (cM_0 G e18) rfl dX7_image_62 ?_
  refine lv_bipush (v := (24 : Int32)) hx hb dX7_image_65 rfl ?_
  refine lv_aload_n hx hb dX7_image_67 rfl (lv_at hl 0 rfl) ?_
  refine r_get C B fo_X7_7 (cM_0 G e18) rfl dX7_image_68 ?_
  obtain ⟨q20, h⟩ := gd_o h
  obtain ⟨s21, q22, h⟩ := nm_o h
  refine r_iast C B (cM_16 G e18) (inb_vp q20) ((uMa_15 G e18 _).trans (congrArg (wM G) q22.symm)) dX7_image_71 (fun H locs B => ?_)
  refine lv_aload_n hx hb dX7_image_72 rfl (lv_at hl 0 rfl) ?_
  refine r_get C B fo_X7_60 (cM_0 G s21) rfl dX7_image_73 ?_
  refine lv_bipush (v := (25 : Int32)) hx hb dX7_image_76 rfl ?_
  refine lv_aload_n hx hb dX7_image_78 rfl (lv_at hl 0 rfl) ?_
  refine r_get C B fo_X7_74 (cM_0 G s21) rfl dX7_image_79 ?_
  obtain ⟨q23, h⟩ := gd_o h
  obtain ⟨s24, q25, h⟩ := nm_o h
  refine r_iast C B (cM_16 G s21) (inb_vp q23) ((uMa_15 G s21 _).trans (congrArg (wM G) q25.symm)) dX7_image_82 (fun H locs B => ?_)
  refine lv_aload_n hx hb dX7_image_83 rfl (lv_at hl 0 rfl) ?_
  refine r_get C B fo_X7_60 (cM_0 G s24) rfl dX7_image_84 ?_
  refine lv_bipush (v := (26 : Int32)) hx hb dX7_image_87 rfl ?_
  refine lv_aload_n hx hb dX7_image_89 rfl (lv_at hl 0 rfl) ?_
  refine r_get C B fo_X7_71 (cM_0 G s24) rfl dX7_image_90 ?_
  obtain ⟨q26, h⟩ := gd_o h
  obtain ⟨s27, q28, h⟩ := nm_o h
  refine r_iast C B (cM_16 G s24) (inb_vp q26) ((uMa_15 G s24 _).trans (congrArg (wM G) q28.symm)) dX7_image_93 (fun H locs B => ?_)
  refine lv_aload_n hx hb dX7_image_94 rfl (lv_at hl 0 rfl) ?_
  refine r_get C B fo_X7_7 (cM_0 G s27) rfl dX7_image_95 ?_
  obtain ⟨rfl, rfl⟩ := ret2 h
  exact r_iret C B hr rfl dX7_image_98
def rm_X7_undo : Room := { frames := 0, cells := 0, slots := 0, locals := 0 }
set_option maxRecDepth 100000 in
set_option maxHeartbeats 4000000 in
theorem l_X7_undo_L1 {G : GT} {p : Program} {e : Env} {s : State} {m : MethodId} {args : Array Value} {below : List Frame} {meth : Method} {c : Code} {Q : State → Prop} (C : CT G p s m meth c args cX7_undo 2 RX7) (hr : meth.sig.returnType = (some .int)) : ∀ (k : Nat) (v1 : Int32) (s0 : ST) (e1 : ST), X7_undo_L1  k v1 s0 = some e1 → Kn G p e rm_X7_undo s m args below meth c Q 2 66 [(0, .ref (gad G 0))] (wM G e1) → Kn G p e rm_X7_undo s m args below meth c Q 2 12 [(0, .ref (gad G 0)), (1, .int v1)] (wM G s0) := by
  have hx := C.1
  have hb := C.2.1
  intro k
  induction k with
  | zero =>
    intro v1 s0 e1 h
    exact nso h
  | succ k ih =>
    intro v1 s0 e1 h hk H locs ls B hl
    have h : X7_undo_L1_b  (X7_undo_L1  k) v1 s0 = some e1 := h
    unfold X7_undo_L1_b at h
    refine lv_iload_n hx hb dX7_undo_12 rfl (lv_at hl 1 rfl) ?_
    refine lv_bipush (v := (8 : Int32)) hx hb dX7_undo_13 rfl ?_
    refine lv_icmp_ge (tgt := 66) hx hb dX7_undo_15 (by decide) (fun q2 => ?_) (fun q2 => ?_)
    · have h := ip h q2
      obtain rfl := ret1 h
      exact hk H locs ls B (lv_sub hl [0] rfl)
    · have h := ig h q2
      refine lv_aload_n hx hb dX7_undo_18 rfl (lv_at hl 0 rfl) ?_
      refine r_get C B fo_X7_13 (cM_0 G s0) rfl dX7_undo_19 ?_
      refine lv_iload_n hx hb dX7_undo_22 rfl (lv_at hl 1 rfl) ?_
      refine lv_aload_n hx hb dX7_undo_23 rfl (lv_at hl 0 rfl) ?_
      refine r_get C B fo_X7_60 (cM_0 G s0) rfl dX7_undo_24 ?_
      refine lv_iload_n hx hb dX7_undo_27 rfl (lv_at hl 1 rfl) ?_
      obtain ⟨q3, h⟩ := gd_o h
      refine r_iald C B (cM_16 G s0) (inb_vp q3) dX7_undo_28 ?_
      obtain ⟨q4, h⟩ := gd_o h
      obtain ⟨s5, q6, h⟩ := nm_o h
      refine r_iast C B (cM_1 G s0) (inb_vp q4) ((uMa_0 G s0 _).trans (congrArg (wM G) q6.symm)) dX7_undo_29 (fun H locs B => ?_)
      refine lv_aload_n hx hb dX7_undo_30 rfl (lv_at hl 0 rfl) ?_
      refine r_get C B fo_X7_17 (cM_0 G s5) rfl dX7_undo_31 ?_
      refine lv_iload_n hx hb dX7_undo_34 rfl (lv_at hl 1 rfl) ?_
      refine lv_aload_n hx hb dX7_undo_35 rfl (lv_at hl 0 rfl) ?_
      refine r_get C B fo_X7_60 (cM_0 G s5) rfl dX7_undo_36 ?_
      refine lv_bipush (v := (8 : Int32)) hx hb dX7_undo_39 rfl ?_
      refine lv_iload_n hx hb dX7_undo_41 rfl (lv_at hl 1 rfl) ?_
      refine lv_iadd hx hb dX7_undo_42 ?_
      obtain ⟨q7, h⟩ := gd_o h
      refine r_iald C B (cM_16 G s5) (inb_vp q7) dX7_undo_43 ?_
      obtain ⟨q8, h⟩ := gd_o h
      obtain ⟨s9, q10, h⟩ := nm_o h
      refine r_iast C B (cM_2 G s5) (inb_vp q8) ((uMa_1 G s5 _).trans (congrArg (wM G) q10.symm)) dX7_undo_44 (fun H locs B => ?_)
      refine lv_aload_n hx hb dX7_undo_45 rfl (lv_at hl 0 rfl) ?_
      refine r_get C B fo_X7_20 (cM_0 G s9) rfl dX7_undo_46 ?_
      refine lv_iload_n hx hb dX7_undo_49 rfl (lv_at hl 1 rfl) ?_
      refine lv_aload_n hx hb dX7_undo_50 rfl (lv_at hl 0 rfl) ?_
      refine r_get C B fo_X7_60 (cM_0 G s9) rfl dX7_undo_51 ?_
      refine lv_bipush (v := (16 : Int32)) hx hb dX7_undo_54 rfl ?_
      refine lv_iload_n hx hb dX7_undo_56 rfl (lv_at hl 1 rfl) ?_
      refine lv_iadd hx hb dX7_undo_57 ?_
      obtain ⟨q11, h⟩ := gd_o h
      refine r_iald C B (cM_16 G s9) (inb_vp q11) dX7_undo_58 ?_
      obtain ⟨q12, h⟩ := gd_o h
      obtain ⟨s13, q14, h⟩ := nm_o h
      refine r_iast C B (cM_3 G s9) (inb_vp q12) ((uMa_2 G s9 _).trans (congrArg (wM G) q14.symm)) dX7_undo_59 (fun H locs B => ?_)
      obtain ⟨v1_15, q16, h⟩ := nm_o h
      refine lv_iinc (v := v1_15) (lv' := [(1, .int v1_15), (0, .ref (gad G 0))]) hx hb dX7_undo_60 hl (k := 1) rfl q16.symm (by decide) rfl (fun ls hl => ?_)
      refine lv_goto (tgt := 12) hx hb dX7_undo_63 (by decide) ?_
      exact ih v1_15 s13 e1 h hk H locs ls B (lv_sub hl [1, 0] rfl)
set_option maxRecDepth 100000 in
set_option maxHeartbeats 4000000 in
theorem c_X7_undo (G : GT) (n : Nat) (s0 : ST)  (r : Int32) (s' : ST) (h : X7_undo n s0  = some (r, s')) : Con G yX7_undo cX7_undo 2 (some .int) rm_X7_undo [.ref (gad G 0)] (wM G s0) (some (.int r)) (wM G s') := by
  unfold X7_undo at h
  refine con_of (by decide +kernel) (Nat.le_of_ble_eq_true rfl) (fun {p e s m below meth c} C hr {H locs ls} B hl => ?_)
  have hx := C.1
  have hb := C.2.1
  have hl : lv_has ls 2 [(0, .ref (gad G 0))] := hl
  refine lv_aload_n hx hb dX7_undo_0 rfl (lv_at hl 0 rfl) ?_
  refine r_get C B fo_X7_279 (cM_0 G s0) rfl dX7_undo_1 ?_
  refine lv_if_ne (tgt := 10) hx hb dX7_undo_4 (by decide) (fun q1 => ?_) (fun q1 => ?_)
  · have h := ig h q1
    refine lv_iconst (v := (0 : Int32)) hx hb dX7_undo_10 rfl ?_
    refine lv_istore_n (lv' := [(1, .int (0 : Int32)), (0, .ref (gad G 0))]) hx hb dX7_undo_11 rfl hl (by decide) rfl (fun ls hl => ?_)
    obtain ⟨e17, q18, h⟩ := bd_o h
    refine l_X7_undo_L1 C hr  n (0 : Int32) s0 e17 q18 ?_ H locs ls B (lv_sub hl [1, 0] rfl)
    intro H locs ls B hl
    refine lv_aload_n hx hb dX7_undo_66 rfl (lv_at hl 0 rfl) ?_
    refine lv_aload_n hx hb dX7_undo_67 rfl (lv_at hl 0 rfl) ?_
    refine r_get C B fo_X7_60 (cM_0 G e17) rfl dX7_undo_68 ?_
    refine lv_bipush (v := (24 : Int32)) hx hb dX7_undo_71 rfl ?_
    obtain ⟨q19, h⟩ := gd_o h
    refine r_iald C B (cM_16 G e17) (inb_vp q19) dX7_undo_73 ?_
    obtain ⟨s20, q21, h⟩ := nm_o h
    refine r_put C B fp_X7_7 (cM_0 G e17) (Nat.le_of_ble_eq_true rfl) rfl rfl ((uMs_0 G e17 _).trans (congrArg (wM G) q21.symm)) dX7_undo_74 (fun H locs B => ?_)
    refine lv_aload_n hx hb dX7_undo_77 rfl (lv_at hl 0 rfl) ?_
    refine lv_aload_n hx hb dX7_undo_78 rfl (lv_at hl 0 rfl) ?_
    refine r_get C B fo_X7_60 (cM_0 G s20) rfl dX7_undo_79 ?_
    refine lv_bipush (v := (25 : Int32)) hx hb dX7_undo_82 rfl ?_
    obtain ⟨q22, h⟩ := gd_o h
    refine r_iald C B (cM_16 G s20) (inb_vp q22) dX7_undo_84 ?_
    obtain ⟨s23, q24, h⟩ := nm_o h
    refine r_put C B fp_X7_74 (cM_0 G s20) (Nat.le_of_ble_eq_true rfl) rfl rfl ((uMs_1 G s20 _).trans (congrArg (wM G) q24.symm)) dX7_undo_85 (fun H locs B => ?_)
    refine lv_aload_n hx hb dX7_undo_88 rfl (lv_at hl 0 rfl) ?_
    refine lv_aload_n hx hb dX7_undo_89 rfl (lv_at hl 0 rfl) ?_
    refine r_get C B fo_X7_60 (cM_0 G s23) rfl dX7_undo_90 ?_
    refine lv_bipush (v := (26 : Int32)) hx hb dX7_undo_93 rfl ?_
    obtain ⟨q25, h⟩ := gd_o h
    refine r_iald C B (cM_16 G s23) (inb_vp q25) dX7_undo_95 ?_
    obtain ⟨s26, q27, h⟩ := nm_o h
    refine r_put C B fp_X7_71 (cM_0 G s23) (Nat.le_of_ble_eq_true rfl) rfl rfl ((uMs_2 G s23 _).trans (congrArg (wM G) q27.symm)) dX7_undo_96 (fun H locs B => ?_)
    refine lv_aload_n hx hb dX7_undo_99 rfl (lv_at hl 0 rfl) ?_
    refine r_get C B fo_X7_7 (cM_0 G s26) rfl dX7_undo_100 ?_
    obtain ⟨rfl, rfl⟩ := ret2 h
    exact r_iret C B hr rfl dX7_undo_103
  · have h := ip h q1
    refine lv_bipush (v := (-3 : Int32)) hx hb dX7_undo_7 rfl ?_
    obtain ⟨rfl, rfl⟩ := ret2 h
    exact r_iret C B hr rfl dX7_undo_9
def rm_X7_count : Room := { frames := 2, cells := 0, slots := 0, locals := 44 }
set_option maxRecDepth 100000 in
set_option maxHeartbeats 4000000 in
theorem l_X7_count_L1 {G : GT} {p : Program} {e : Env} {s : State} {m : MethodId} {args : Array Value} {below : List Frame} {meth : Method} {c : Code} {Q : State → Prop} (C : CT G p s m meth c args cX7_count 4 RX7) (hr : meth.sig.returnType = (some .int)) (s0 : ST) : ∀ (k : Nat) (v3 : Int32) (v2 : Int32) (e1 : Int32), X7_count_L1 s0 k v3 v2 = some e1 → Kn G p e rm_X7_count s m args below meth c Q 4 77 [(2, .int e1)] (wM G s0) → Kn G p e rm_X7_count s m args below meth c Q 4 51 [(0, .ref (gad G 0)), (3, .int v3), (2, .int v2)] (wM G s0) := by
  have hx := C.1
  have hb := C.2.1
  intro k
  induction k with
  | zero =>
    intro v3 v2 e1 h
    exact nso h
  | succ k ih =>
    intro v3 v2 e1 h hk H locs ls B hl
    have h : X7_count_L1_b s0 (X7_count_L1 s0 k) v3 v2 = some e1 := h
    unfold X7_count_L1_b at h
    refine lv_iload_n hx hb dX7_count_51 rfl (lv_at hl 1 rfl) ?_
    refine lv_aload_n hx hb dX7_count_52 rfl (lv_at hl 0 rfl) ?_
    refine r_get C B fo_X7_7 (cM_0 G s0) rfl dX7_count_53 ?_
    refine lv_icmp_ge (tgt := 77) hx hb dX7_count_56 (by decide) (fun q3 => ?_) (fun q3 => ?_)
    · have h := ip h q3
      obtain rfl := ret1 h
      exact hk H locs ls B (lv_sub hl [2] rfl)
    · have h := ig h q3
      refine lv_iload_n hx hb dX7_count_59 rfl (lv_at hl 2 rfl) ?_
      refine lv_aload_n hx hb dX7_count_60 rfl (lv_at hl 0 rfl) ?_
      refine r_get C B fo_X7_13 (cM_0 G s0) rfl dX7_count_61 ?_
      refine lv_iload_n hx hb dX7_count_64 rfl (lv_at hl 1 rfl) ?_
      obtain ⟨q4, h⟩ := gd_o h
      refine r_iald C B (cM_1 G s0) (inb_vp q4) dX7_count_65 ?_
      obtain ⟨r5, q6, h⟩ := bd_o h
      refine r_callSi (rest := [.int v2]) C B.2.2 hl (c_J6_bitCount G (s0.2.1 0 (v3).toNatClampNeg) r5 q6) cs_X7_81 rfl rfl (Nat.le_of_ble_eq_true rfl) ⟨rfl, rfl, Nat.le_of_ble_eq_true rfl, Nat.le_of_ble_eq_true rfl⟩ dX7_count_66 ?_
      refine lv_iadd hx hb dX7_count_69 ?_
      obtain ⟨v2_7, q8, h⟩ := nm_o h
      refine r_nm q8 ?_
      refine lv_istore_n (lv' := [(2, .int v2_7), (0, .ref (gad G 0)), (3, .int v3)]) hx hb dX7_count_70 rfl hl (by decide) rfl (fun ls hl => ?_)
      obtain ⟨v3_9, q10, h⟩ := nm_o h
      refine lv_iinc (v := v3_9) (lv' := [(3, .int v3_9), (2, .int v2_7), (0, .ref (gad G 0))]) hx hb dX7_count_71 hl (k := 2) rfl q10.symm (by decide) rfl (fun ls hl => ?_)
      refine lv_goto (tgt := 51) hx hb dX7_count_74 (by decide) ?_
      exact ih v3_9 v2_7 e1 h hk H locs ls B (lv_sub hl [2, 0, 1] rfl)
set_option maxRecDepth 100000 in
set_option maxHeartbeats 4000000 in
theorem l_X7_count_L2 {G : GT} {p : Program} {e : Env} {s : State} {m : MethodId} {args : Array Value} {below : List Frame} {meth : Method} {c : Code} {Q : State → Prop} (C : CT G p s m meth c args cX7_count 4 RX7) (hr : meth.sig.returnType = (some .int)) (s0 : ST) : ∀ (k : Nat) (v3 : Int32) (v2 : Int32) (e1 : Int32), X7_count_L2 s0 k v3 v2 = some e1 → Kn G p e rm_X7_count s m args below meth c Q 4 124 [(2, .int e1)] (wM G s0) → Kn G p e rm_X7_count s m args below meth c Q 4 96 [(0, .ref (gad G 0)), (3, .int v3), (2, .int v2)] (wM G s0) := by
  have hx := C.1
  have hb := C.2.1
  intro k
  induction k with
  | zero =>
    intro v3 v2 e1 h
    exact nso h
  | succ k ih =>
    intro v3 v2 e1 h hk H locs ls B hl
    have h : X7_count_L2_b s0 (X7_count_L2 s0 k) v3 v2 = some e1 := h
    unfold X7_count_L2_b at h
    refine lv_iload_n hx hb dX7_count_96 rfl (lv_at hl 1 rfl) ?_
    refine lv_iconst (v := (3 : Int32)) hx hb dX7_count_97 rfl ?_
    refine lv_icmp_ge (tgt := 124) hx hb dX7_count_98 (by decide) (fun q17 => ?_) (fun q17 => ?_)
    · have h := ip h q17
      obtain rfl := ret1 h
      exact hk H locs ls B (lv_sub hl [2] rfl)
    · have h := ig h q17
      refine lv_iload_n hx hb dX7_count_101 rfl (lv_at hl 2 rfl) ?_
      refine lv_aload_n hx hb dX7_count_102 rfl (lv_at hl 0 rfl) ?_
      refine r_get C B fo_X7_23 (cM_0 G s0) rfl dX7_count_103 ?_
      refine lv_iload_n hx hb dX7_count_106 rfl (lv_at hl 1 rfl) ?_
      obtain ⟨q18, h⟩ := gd_o h
      refine r_iald C B (cM_4 G s0) (inb_vp q18) dX7_count_107 ?_
      refine lv_if_lt (tgt := 115) hx hb dX7_count_108 (by decide) (fun q19 => ?_) (fun q19 => ?_)
      · have h := ip h q19
        refine lv_iconst (v := (0 : Int32)) hx hb dX7_count_115 rfl ?_
        refine lv_iadd hx hb dX7_count_116 ?_
        obtain ⟨v2_20, q21, h⟩ := nm_o h
        refine r_nm q21 ?_
        refine lv_istore_n (lv' := [(2, .int v2_20), (0, .ref (gad G 0)), (3, .int v3)]) hx hb dX7_count_117 rfl hl (by decide) rfl (fun ls hl => ?_)
        obtain ⟨v3_22, q23, h⟩ := nm_o h
        refine lv_iinc (v := v3_22) (lv' := [(3, .int v3_22), (2, .int v2_20), (0, .ref (gad G 0))]) hx hb dX7_count_118 hl (k := 2) rfl q23.symm (by decide) rfl (fun ls hl => ?_)
        refine lv_goto (tgt := 96) hx hb dX7_count_121 (by decide) ?_
        exact ih v3_22 v2_20 e1 h hk H locs ls B (lv_sub hl [2, 0, 1] rfl)
      · have h := ig h q19
        refine lv_iconst (v := (1 : Int32)) hx hb dX7_count_111 rfl ?_
        refine lv_goto (tgt := 116) hx hb dX7_count_112 (by decide) ?_
        refine lv_iadd hx hb dX7_count_116 ?_
        obtain ⟨v2_24, q25, h⟩ := nm_o h
        refine r_nm q25 ?_
        refine lv_istore_n (lv' := [(2, .int v2_24), (0, .ref (gad G 0)), (3, .int v3)]) hx hb dX7_count_117 rfl hl (by decide) rfl (fun ls hl => ?_)
        obtain ⟨v3_26, q27, h⟩ := nm_o h
        refine lv_iinc (v := v3_26) (lv' := [(3, .int v3_26), (2, .int v2_24), (0, .ref (gad G 0))]) hx hb dX7_count_118 hl (k := 2) rfl q27.symm (by decide) rfl (fun ls hl => ?_)
        refine lv_goto (tgt := 96) hx hb dX7_count_121 (by decide) ?_
        exact ih v3_26 v2_24 e1 h hk H locs ls B (lv_sub hl [2, 0, 1] rfl)
set_option maxRecDepth 100000 in
set_option maxHeartbeats 4000000 in
theorem c_X7_count (G : GT) (n : Nat) (s0 : ST) (v1 : Int32) (r : Int32) (h : X7_count n s0 v1 = some r) : Con G yX7_count cX7_count 4 (some .int) rm_X7_count [.ref (gad G 0), .int v1] (wM G s0) (some (.int r)) (wM G s0) := by
  unfold X7_count at h
  refine con_of (by decide +kernel) (Nat.le_of_ble_eq_true rfl) (fun {p e s m below meth c} C hr {H locs ls} B hl => ?_)
  have hx := C.1
  have hb := C.2.1
  have hl : lv_has ls 4 [(0, .ref (gad G 0)), (1, .int v1)] := hl
  refine lv_iconst (v := (0 : Int32)) hx hb dX7_count_0 rfl ?_
  refine lv_istore_n (lv' := [(2, .int (0 : Int32)), (0, .ref (gad G 0)), (1, .int v1)]) hx hb dX7_count_1 rfl hl (by decide) rfl (fun ls hl => ?_)
  refine lv_iload_n hx hb dX7_count_2 rfl (lv_at hl 2 rfl) ?_
  by_cases q1 : v1 = (0 : Int32)
  · have h := ip h q1
    refine r_tab (off := 41) (tgt := 44) C q1 dX7_count_3 (by decide) (by decide) ?_
    refine lv_aload_n hx hb dX7_count_44 rfl (lv_at hl 1 rfl) ?_
    refine r_get C B fo_X7_7 (cM_0 G s0) rfl dX7_count_45 ?_
    obtain rfl := ret1 h
    exact r_iret C B hr rfl dX7_count_48
  · have h := ig h q1
    by_cases q2 : v1 = (1 : Int32)
    · have h := ip h q2
      refine r_tab (off := 46) (tgt := 49) C q2 dX7_count_3 (by decide) (by decide) ?_
      refine lv_iconst (v := (0 : Int32)) hx hb dX7_count_49 rfl ?_
      refine lv_istore_n (lv' := [(3, .int (0 : Int32)), (2, .int (0 : Int32)), (0, .ref (gad G 0)), (1, .int v1)]) hx hb dX7_count_50 rfl hl (by decide) rfl (fun ls hl => ?_)
      obtain ⟨e11, q12, h⟩ := bd_o h
      refine l_X7_count_L1 C hr s0 n (0 : Int32) (0 : Int32) e11 q12 ?_ H locs ls B (lv_sub hl [2, 0, 1] rfl)
      intro H locs ls B hl
      refine lv_iload_n hx hb dX7_count_77 rfl (lv_at hl 0 rfl) ?_
      obtain rfl := ret1 h
      exact r_iret C B hr rfl dX7_count_78
    · have h := ig h q2
      by_cases q13 : v1 = (2 : Int32)
      · have h := ip h q13
        refine r_tab (off := 76) (tgt := 79) C q13 dX7_count_3 (by decide) (by decide) ?_
        refine lv_aload_n hx hb dX7_count_79 rfl (lv_at hl 1 rfl) ?_
        refine r_get C B fo_X7_74 (cM_0 G s0) rfl dX7_count_80 ?_
        obtain rfl := ret1 h
        exact r_iret C B hr rfl dX7_count_83
      · have h := ig h q13
        by_cases q14 : v1 = (3 : Int32)
        · have h := ip h q14
          refine r_tab (off := 81) (tgt := 84) C q14 dX7_count_3 (by decide) (by decide) ?_
          refine lv_aload_n hx hb dX7_count_84 rfl (lv_at hl 1 rfl) ?_
          refine r_get C B fo_X7_71 (cM_0 G s0) rfl dX7_count_85 ?_
          obtain rfl := ret1 h
          exact r_iret C B hr rfl dX7_count_88
        · have h := ig h q14
          by_cases q15 : v1 = (4 : Int32)
          · have h := ip h q15
            refine r_tab (off := 86) (tgt := 89) C q15 dX7_count_3 (by decide) (by decide) ?_
            refine lv_aload_n hx hb dX7_count_89 rfl (lv_at hl 1 rfl) ?_
            refine r_get C B fo_X7_176 (cM_0 G s0) rfl dX7_count_90 ?_
            obtain rfl := ret1 h
            exact r_iret C B hr rfl dX7_count_93
          · have h := ig h q15
            by_cases q16 : v1 = (5 : Int32)
            · have h := ip h q16
              refine r_tab (off := 91) (tgt := 94) C q16 dX7_count_3 (by decide) (by decide) ?_
              refine lv_iconst (v := (0 : Int32)) hx hb dX7_count_94 rfl ?_
              refine lv_istore_n (lv' := [(3, .int (0 : Int32)), (2, .int (0 : Int32)), (0, .ref (gad G 0)), (1, .int v1)]) hx hb dX7_count_95 rfl hl (by decide) rfl (fun ls hl => ?_)
              obtain ⟨e28, q29, h⟩ := bd_o h
              refine l_X7_count_L2 C hr s0 n (0 : Int32) (0 : Int32) e28 q29 ?_ H locs ls B (lv_sub hl [2, 0, 1] rfl)
              intro H locs ls B hl
              refine lv_iload_n hx hb dX7_count_124 rfl (lv_at hl 0 rfl) ?_
              obtain rfl := ret1 h
              exact r_iret C B hr rfl dX7_count_125
            · have h := ig h q16
              by_cases q30 : v1 = (6 : Int32)
              · have h := ip h q30
                refine r_tab (off := 123) (tgt := 126) C q30 dX7_count_3 (by decide) (by decide) ?_
                refine lv_aload_n hx hb dX7_count_126 rfl (lv_at hl 1 rfl) ?_
                refine lv_aload_n hx hb dX7_count_127 rfl (lv_at hl 1 rfl) ?_
                obtain ⟨r32, q31, h⟩ := bd_o h
                refine r_callVi (rest := [.ref (gad G 0)]) C B hl (c_X7_all G s0 r32 q31) cs_X7_67 (cM_0 G s0) rfl rfl rfl (Nat.le_of_ble_eq_true rfl) ⟨rfl, rfl, Nat.le_of_ble_eq_true rfl, Nat.le_of_ble_eq_true rfl⟩ dX7_count_128 (fun H locs B => ?_)
                obtain ⟨r34, q33, h⟩ := bd_o h
                refine r_callVi (rest := []) C B hl (c_X7_weightOf G n s0 r32 r34 q33) cs_X7_147 (cM_0 G s0) rfl rfl rfl (Nat.le_of_ble_eq_true rfl) ⟨rfl, rfl, Nat.le_of_ble_eq_true rfl, Nat.le_of_ble_eq_true rfl⟩ dX7_count_131 (fun H locs B => ?_)
                obtain rfl := ret1 h
                exact r_iret C B hr rfl dX7_count_134
              · have h := ig h q30
                refine lv_tableOut (tgt := 135) hx hb dX7_count_3 (r_span (fun k h1 h2 => by have e : k = 0 ∨ k = 1 ∨ k = 2 ∨ k = 3 ∨ k = 4 ∨ k = 5 ∨ k = 6 := (by omega); rcases e with rfl | rfl | rfl | rfl | rfl | rfl | rfl; exact ne_toInt q1; exact ne_toInt q2; exact ne_toInt q13; exact ne_toInt q14; exact ne_toInt q15; exact ne_toInt q16; exact ne_toInt q30)) (by decide) ?_
                refine lv_iconst (v := (-1 : Int32)) hx hb dX7_count_135 rfl ?_
                obtain rfl := ret1 h
                exact r_iret C B hr rfl dX7_count_136
