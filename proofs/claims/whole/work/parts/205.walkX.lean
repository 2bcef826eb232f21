/-! WALKS (X 5): each method comes back with what its plain function says -/
set_option maxRecDepth 100000 in
set_option maxHeartbeats 4000000 in
theorem c_X6_film (G : GT) (n : Nat) (s0 : ST) (v1 : Int32) (v2 : Int32) (v3 : Int32) (v4 : Int32) (r : Int32) (s' : ST) (h : X6_film n s0 v1 v2 v3 v4 = some (r, s')) : Con G yX6_film cX6_film 8 (some .int) rm_X6_film [.ref (gad G 0), .int v1, .int v2, .int v3, .int v4] (wX G s0) (some (.int r)) (wX G s') := by
  unfold X6_film at h
  refine con_of (by decide +kernel) (Nat.le_of_ble_eq_true rfl) (fun {p e s m below meth c} C hr {H locs ls} B hl => ?_)
  have hx := C.1
  have hb := C.2.1
  have hl : lv_has ls 8 [(0, .ref (gad G 0)), (1, .int v1), (2, .int v2), (3, .int v3), (4, .int v4)] := hl
  refine lv_iload_n hx hb dX6_film_0 rfl (lv_at hl 1 rfl) ?_
  obtain ⟨r1, q2, h⟩ := bd_o h
  refine r_callSi (rest := []) C B.2.2 hl (c_X6_isRow G v1 r1 q2) cs_X6_212 rfl rfl (Nat.le_of_ble_eq_true rfl) ⟨rfl, rfl, Nat.le_of_ble_eq_true rfl, Nat.le_of_ble_eq_true rfl⟩ dX6_film_1 ?_
  refine lv_if_eq (tgt := 14) hx hb dX6_film_4 (by decide) (fun q3 => ?_) (fun q3 => ?_)
  · have h := ip h q3
    refine lv_iconst (v := (-1 : Int32)) hx hb dX6_film_14 rfl ?_
    obtain ⟨rfl, rfl⟩ := ret2 h
    exact r_iret C B hr rfl dX6_film_15
  · have h := ig h q3
    refine lv_iload_n hx hb dX6_film_7 rfl (lv_at hl 2 rfl) ?_
    obtain ⟨r4, q5, h⟩ := bd_o h
    refine r_callSi (rest := []) C B.2.2 hl (c_X6_isSide G v2 r4 q5) cs_X6_113 rfl rfl (Nat.le_of_ble_eq_true rfl) ⟨rfl, rfl, Nat.le_of_ble_eq_true rfl, Nat.le_of_ble_eq_true rfl⟩ dX6_film_8 ?_
    refine lv_if_ne (tgt := 16) hx hb dX6_film_11 (by decide) (fun q6 => ?_) (fun q6 => ?_)
    · have h := ig h q6
      refine lv_aload_n hx hb dX6_film_16 rfl (lv_at hl 0 rfl) ?_
      refine r_get C B fo_X6_10 (cX_0 G s0) rfl dX6_film_17 ?_
      refine lv_iload_n hx hb dX6_film_20 rfl (lv_at hl 3 rfl) ?_
      obtain ⟨r8, q7, h⟩ := bd_o h
      refine r_callVi (rest := []) C B hl (c_X4_isSet G s0 v3 r8 q7) cs_X6_79 (cX_1 G s0) rfl rfl rfl (Nat.le_of_ble_eq_true rfl) ⟨rfl, rfl, Nat.le_of_ble_eq_true rfl, Nat.le_of_ble_eq_true rfl⟩ dX6_film_21 (fun H locs B => ?_)
      refine lv_if_eq (tgt := 39) hx hb dX6_film_24 (by decide) (fun q9 => ?_) (fun q9 => ?_)
      · have h := ip h q9
        refine lv_bipush (v := (-2 : Int32)) hx hb dX6_film_39 rfl ?_
        obtain ⟨rfl, rfl⟩ := ret2 h
        exact r_iret C B hr rfl dX6_film_41
      · have h := ig h q9
        refine lv_iload hx hb dX6_film_27 (lv_at hl 4 rfl) ?_
        refine lv_if_lt (tgt := 39) hx hb dX6_film_29 (by decide) (fun q10 => ?_) (fun q10 => ?_)
        · have h := ip h q10
          refine lv_bipush (v := (-2 : Int32)) hx hb dX6_film_39 rfl ?_
          obtain ⟨rfl, rfl⟩ := ret2 h
          exact r_iret C B hr rfl dX6_film_41
        · have h := ig h q10
          refine lv_iload hx hb dX6_film_32 (lv_at hl 4 rfl) ?_
          refine lv_bipush (v := (40 : Int32)) hx hb dX6_film_34 rfl ?_
          refine lv_icmp_le (tgt := 42) hx hb dX6_film_36 (by decide) (fun q11 => ?_) (fun q11 => ?_)
          · have h := ip h q11
            refine lv_aload_n hx hb dX6_film_42 rfl (lv_at hl 0 rfl) ?_
            obtain ⟨s13, q12, h⟩ := bd_o h
            refine r_callVa (rest := []) C B hl (c_X6_freshRanks G n s0 s13 q12) cs_X6_116 (cX_0 G s0) rfl rfl rfl (Nat.le_of_ble_eq_true rfl) ⟨rfl, rfl, Nat.le_of_ble_eq_true rfl, Nat.le_of_ble_eq_true rfl⟩ dX6_film_43 (fun H locs B => ?_)
            refine lv_astore (lv' := [(5, .ref (gad G 9)), (0, .ref (gad G 0)), (1, .int v1), (2, .int v2), (3, .int v3), (4, .int v4)]) hx hb dX6_film_46 hl (by decide) rfl (fun ls hl => ?_)
            refine lv_iload hx hb dX6_film_48 (lv_at hl 5 rfl) ?_
            refine lv_aload_n hx hb dX6_film_50 rfl (lv_at hl 1 rfl) ?_
            refine r_get C B fo_X6_10 (cX_0 G s13) rfl dX6_film_51 ?_
            obtain ⟨r15, q14, h⟩ := bd_o h
            refine r_callVi (rest := [.int v4]) C B hl (c_X4_all G s13 r15 q14) cs_X6_154 (cX_1 G s13) rfl rfl rfl (Nat.le_of_ble_eq_true rfl) ⟨rfl, rfl, Nat.le_of_ble_eq_true rfl, Nat.le_of_ble_eq_true rfl⟩ dX6_film_54 (fun H locs B => ?_)
            refine lv_iload_n hx hb dX6_film_57 rfl (lv_at hl 4 rfl) ?_
            refine lv_isub hx hb dX6_film_58 ?_
            refine lv_iconst (v := (1 : Int32)) hx hb dX6_film_59 rfl ?_
            refine lv_iadd hx hb dX6_film_60 ?_
            obtain ⟨r16, q17, h⟩ := nm_o h
            refine va_mmin hx hb (C.2.2.1.trans hl.1.symm) C.2.2.2.1 (C.2.2.2.2.1 _ wm_656) (C.2.2.2.2.1 _ wm_657) (C.2.2.2.2.1 _ wm_70) (C.2.2.2.2.1 _ wm_658) (Nat.le_of_ble_eq_true rfl) (Nat.le_of_ble_eq_true rfl) (Nat.zero_le _) (Nat.zero_le _) dX6_film_61 ?_
            refine r_nm q17 ?_
            refine lv_istore (lv' := [(6, .int r16), (5, .ref (gad G 9)), (0, .ref (gad G 0)), (1, .int v1), (2, .int v2), (3, .int v3), (4, .int v4)]) hx hb dX6_film_64 hl (by decide) rfl (fun ls hl => ?_)
            refine lv_iconst (v := (0 : Int32)) hx hb dX6_film_66 rfl ?_
            refine lv_istore (lv' := [(7, .int (0 : Int32)), (6, .int r16), (5, .ref (gad G 9)), (0, .ref (gad G 0)), (1, .int v1), (2, .int v2), (3, .int v3), (4, .int v4)]) hx hb dX6_film_67 hl (by decide) rfl (fun ls hl => ?_)
            obtain ⟨e41, q42, h⟩ := bd_o h
            refine l_X6_film_L1 C hr r16 v1 v2 v3 n (0 : Int32) s13 e41 q42 ?_ H locs ls B (lv_sub hl [2, 3, 1, 4, 5, 6, 0] rfl)
            intro H locs ls B hl
            refine lv_aload_n hx hb dX6_film_101 rfl (lv_at hl 0 rfl) ?_
            refine r_get C B fo_X6_42 (cX_0 G e41) rfl dX6_film_102 ?_
            refine lv_iload_n hx hb dX6_film_105 rfl (lv_at hl 2 rfl) ?_
            refine lv_iload hx hb dX6_film_106 (lv_at hl 1 rfl) ?_
            obtain ⟨q43, h⟩ := gd_o h
            obtain ⟨s44, q45, h⟩ := nm_o h
            refine r_iast C B (cX_26 G e41) (inb_vp q43) ((uXa_14 G e41 _).trans (congrArg (wX G) q45.symm)) dX6_film_108 (fun H locs B => ?_)
            refine lv_iload hx hb dX6_film_109 (lv_at hl 1 rfl) ?_
            obtain ⟨rfl, rfl⟩ := ret2 h
            exact r_iret C B hr rfl dX6_film_111
          · have h := ig h q11
            refine lv_bipush (v := (-2 : Int32)) hx hb dX6_film_39 rfl ?_
            obtain ⟨rfl, rfl⟩ := ret2 h
            exact r_iret C B hr rfl dX6_film_41
    · have h := ip h q6
      refine lv_iconst (v := (-1 : Int32)) hx hb dX6_film_14 rfl ?_
      obtain ⟨rfl, rfl⟩ := ret2 h
      exact r_iret C B hr rfl dX6_film_15
def rm_X6_judge : Room := { frames := 5, cells := 0, slots := 0, locals := 110 }
set_option maxRecDepth 100000 in
set_option maxHeartbeats 4000000 in
theorem l_X6_judge_L1 {G : GT} {p : Program} {e : Env} {s : State} {m : MethodId} {args : Array Value} {below : List Frame} {meth : Method} {c : Code} {Q : State → Prop} (C : CT G p s m meth c args cX6_judge 6 RX6) (hr : meth.sig.returnType = (some .int)) (s0 : ST) (v1 : Int32) (v2 : Int32) (v3 : Int32) : ∀ (k : Nat) (v5 : Int32) (e1 : (Int32 × ST) ⊕ (Unit)), X6_judge_L1 s0 v1 v2 v3 k v5 = some e1 → (∀ rv, e1 = Sum.inl rv → Q = QR G below args s (some (.int rv.1)) (wX G rv.2)) → (∀ ex, e1 = Sum.inr ex → Kn G p e rm_X6_judge s m args below meth c Q 6 106 [(0, .ref (gad G 0)), (1, .int v1)] (wX G s0)) → Kn G p e rm_X6_judge s m args below meth c Q 6 50 [(4, .ref (gad G 9)), (0, .ref (gad G 0)), (1, .int v1), (2, .int v2), (3, .int v3), (5, .int v5)] (wX G s0) := by
  have hx := C.1
  have hb := C.2.1
  intro k
  induction k with
  | zero =>
    intro v5 e1 h
    exact nso h
  | succ k ih =>
    intro v5 e1 h hret hk H locs ls B hl
    have h : X6_judge_L1_b s0 v1 v2 v3 (X6_judge_L1 s0 v1 v2 v3 k) v5 = some e1 := h
    unfold X6_judge_L1_b at h
    refine lv_iload hx hb dX6_judge_50 (lv_at hl 5 rfl) ?_
    refine lv_aload_n hx hb dX6_judge_52 rfl (lv_at hl 1 rfl) ?_
    refine r_get C B fo_X6_42 (cX_0 G s0) rfl dX6_judge_53 ?_
    refine lv_iload_n hx hb dX6_judge_56 rfl (lv_at hl 2 rfl) ?_
    obtain ⟨q15, h⟩ := gd_o h
    refine r_iald C B (cX_26 G s0) (inb_vp q15) dX6_judge_57 ?_
    refine lv_icmp_ge (tgt := 106) hx hb dX6_judge_58 (by decide) (fun q16 => ?_) (fun q16 => ?_)
    · have h := ip h q16
      obtain rfl := ret1 h
      exact hk _ rfl H locs ls B (lv_sub hl [1, 2] rfl)
    · have h := ig h q16
      refine lv_aload_n hx hb dX6_judge_61 rfl (lv_at hl 1 rfl) ?_
      refine r_get C B fo_X6_10 (cX_0 G s0) rfl dX6_judge_62 ?_
      refine lv_iload_n hx hb dX6_judge_65 rfl (lv_at hl 4 rfl) ?_
      refine lv_iload hx hb dX6_judge_66 (lv_at hl 5 rfl) ?_
      refine lv_iadd hx hb dX6_judge_68 ?_
      obtain ⟨r18, q17, h⟩ := bd_o h
      refine r_callVi (rest := []) C B hl (c_X4_isSet G s0 (v3 + v5) r18 q17) cs_X6_79 (cX_1 G s0) rfl rfl rfl (Nat.le_of_ble_eq_true rfl) ⟨rfl, rfl, Nat.le_of_ble_eq_true rfl, Nat.le_of_ble_eq_true rfl⟩ dX6_judge_69 (fun H locs B => ?_)
      refine lv_if_eq (tgt := 97) hx hb dX6_judge_72 (by decide) (fun q19 => ?_) (fun q19 => ?_)
      · have h := ip h q19
        refine lv_iload hx hb dX6_judge_97 (lv_at hl 5 rfl) ?_
        obtain rfl := ret1 h
        rw [hret _ rfl]
        exact r_iret C B hr rfl dX6_judge_99
      · have h := ig h q19
        refine lv_aload_n hx hb dX6_judge_75 rfl (lv_at hl 1 rfl) ?_
        refine r_get C B fo_X6_39 (cX_0 G s0) rfl dX6_judge_76 ?_
        refine lv_iload_n hx hb dX6_judge_79 rfl (lv_at hl 2 rfl) ?_
        rcases row3_o h with ⟨q20, h⟩ | ⟨q20, h⟩ | ⟨q20, h⟩
        · refine r_aald (b := gad G 23) C B (cX_22 G s0) (rows_in (by rw [q20]; decide)) (by rw [q20]; rfl) dX6_judge_80 ?_
          refine lv_iload hx hb dX6_judge_81 (lv_at hl 5 rfl) ?_
          obtain ⟨q21, h⟩ := gd_o h
          refine r_iald C B (cX_23 G s0) (inb_vp q21) dX6_judge_83 ?_
          refine lv_aload hx hb dX6_judge_84 (lv_at hl 0 rfl) ?_
          refine lv_iload_n hx hb dX6_judge_86 rfl (lv_at hl 3 rfl) ?_
          refine lv_iload_n hx hb dX6_judge_87 rfl (lv_at hl 4 rfl) ?_
          refine lv_iload hx hb dX6_judge_88 (lv_at hl 5 rfl) ?_
          refine lv_iadd hx hb dX6_judge_90 ?_
          obtain ⟨r23, q22, h⟩ := bd_o h
          refine r_callVi (rest := [.int (s0.2.1 11 (v5).toNatClampNeg)]) C B hl (c_X2_of G s0 v2 (v3 + v5) r23 q22) cs_X6_120 (cX_9 G s0) rfl rfl rfl (Nat.le_of_ble_eq_true rfl) ⟨rfl, rfl, Nat.le_of_ble_eq_true rfl, Nat.le_of_ble_eq_true rfl⟩ dX6_judge_91 (fun H locs B => ?_)
          refine lv_icmp_eq (tgt := 100) hx hb dX6_judge_94 (by decide) (fun q24 => ?_) (fun q24 => ?_)
          · have h := ip h q24
            obtain ⟨v5_25, q26, h⟩ := nm_o h
            refine lv_iinc (v := v5_25) (lv' := [(5, .int v5_25), (4, .ref (gad G 9)), (0, .ref (gad G 0)), (1, .int v1), (2, .int v2), (3, .int v3)]) hx hb dX6_judge_100 hl (k := 5) rfl q26.symm (by decide) rfl (fun ls hl => ?_)
            refine lv_goto (tgt := 50) hx hb dX6_judge_103 (by decide) ?_
            exact ih v5_25 e1 h hret hk H locs ls B (lv_sub hl [1, 2, 3, 4, 5, 0] rfl)
          · have h := ig h q24
            refine lv_iload hx hb dX6_judge_97 (lv_at hl 5 rfl) ?_
            obtain rfl := ret1 h
            rw [hret _ rfl]
            exact r_iret C B hr rfl dX6_judge_99
        · refine r_aald (b := gad G 24) C B (cX_22 G s0) (rows_in (by rw [q20]; decide)) (by rw [q20]; rfl) dX6_judge_80 ?_
          refine lv_iload hx hb dX6_judge_81 (lv_at hl 5 rfl) ?_
          obtain ⟨q27, h⟩ := gd_o h
          refine r_iald C B (cX_24 G s0) (inb_vp q27) dX6_judge_83 ?_
          refine lv_aload hx hb dX6_judge_84 (lv_at hl 0 rfl) ?_
          refine lv_iload_n hx hb dX6_judge_86 rfl (lv_at hl 3 rfl) ?_
          refine lv_iload_n hx hb dX6_judge_87 rfl (lv_at hl 4 rfl) ?_
          refine lv_iload hx hb dX6_judge_88 (lv_at hl 5 rfl) ?_
          refine lv_iadd hx hb dX6_judge_90 ?_
          obtain ⟨r29, q28, h⟩ := bd_o h
          refine r_callVi (rest := [.int (s0.2.1 12 (v5).toNatClampNeg)]) C B hl (c_X2_of G s0 v2 (v3 + v5) r29 q28) cs_X6_120 (cX_9 G s0) rfl rfl rfl (Nat.le_of_ble_eq_true rfl) ⟨rfl, rfl, Nat.le_of_ble_eq_true rfl, Nat.le_of_ble_eq_true rfl⟩ dX6_judge_91 (fun H locs B => ?_)
          refine lv_icmp_eq (tgt := 100) hx hb dX6_judge_94 (by decide) (fun q30 => ?_) (fun q30 => ?_)
          · have h := ip h q30
            obtain ⟨v5_31, q32, h⟩ := nm_o h
            refine lv_iinc (v := v5_31) (lv' := [(5, .int v5_31), (4, .ref (gad G 9)), (0, .ref (gad G 0)), (1, .int v1), (2, .int v2), (3, .int v3)]) hx hb dX6_judge_100 hl (k := 5) rfl q32.symm (by decide) rfl (fun ls hl => ?_)
            refine lv_goto (tgt := 50) hx hb dX6_judge_103 (by decide) ?_
            exact ih v5_31 e1 h hret hk H locs ls B (lv_sub hl [1, 2, 3, 4, 5, 0] rfl)
          · have h := ig h q30
            refine lv_iload hx hb dX6_judge_97 (lv_at hl 5 rfl) ?_
            obtain rfl := ret1 h
            rw [hret _ rfl]
            exact r_iret C B hr rfl dX6_judge_99
        · refine r_aald (b := gad G 25) C B (cX_22 G s0) (rows_in (by rw [q20]; decide)) (by rw [q20]; rfl) dX6_judge_80 ?_
          refine lv_iload hx hb dX6_judge_81 (lv_at hl 5 rfl) ?_
          obtain ⟨q33, h⟩ := gd_o h
          refine r_iald C B (cX_25 G s0) (inb_vp q33) dX6_judge_83 ?_
          refine lv_aload hx hb dX6_judge_84 (lv_at hl 0 rfl) ?_
          refine lv_iload_n hx hb dX6_judge_86 rfl (lv_at hl 3 rfl) ?_
          refine lv_iload_n hx hb dX6_judge_87 rfl (lv_at hl 4 rfl) ?_
          refine lv_iload hx hb dX6_judge_88 (lv_at hl 5 rfl) ?_
          refine lv_iadd hx hb dX6_judge_90 ?_
          obtain ⟨r35, q34, h⟩ := bd_o h
          refine r_callVi (rest := [.int (s0.2.1 13 (v5).toNatClampNeg)]) C B hl (c_X2_of G s0 v2 (v3 + v5) r35 q34) cs_X6_120 (cX_9 G s0) rfl rfl rfl (Nat.le_of_ble_eq_true rfl) ⟨rfl, rfl, Nat.le_of_ble_eq_true rfl, Nat.le_of_ble_eq_true rfl⟩ dX6_judge_91 (fun H locs B => ?_)
          refine lv_icmp_eq (tgt := 100) hx hb dX6_judge_94 (by decide) (fun q36 => ?_) (fun q36 => ?_)
          · have h := ip h q36
            obtain ⟨v5_37, q38, h⟩ := nm_o h
            refine lv_iinc (v := v5_37) (lv' := [(5, .int v5_37), (4, .ref (gad G 9)), (0, .ref (gad G 0)), (1, .int v1), (2, .int v2), (3, .int v3)]) hx hb dX6_judge_100 hl (k := 5) rfl q38.symm (by decide) rfl (fun ls hl => ?_)
            refine lv_goto (tgt := 50) hx hb dX6_judge_103 (by decide) ?_
            exact ih v5_37 e1 h hret hk H locs ls B (lv_sub hl [1, 2, 3, 4, 5, 0] rfl)
          · have h := ig h q36
            refine lv_iload hx hb dX6_judge_97 (lv_at hl 5 rfl) ?_
            obtain rfl := ret1 h
            rw [hret _ rfl]
            exact r_iret C B hr rfl dX6_judge_99
set_option maxRecDepth 100000 in
set_option maxHeartbeats 4000000 in
theorem c_X6_judge (G : GT) (n : Nat) (s0 : ST) (v1 : Int32) (v2 : Int32) (v3 : Int32) (r : Int32) (s' : ST) (h : X6_judge n s0 v1 v2 v3 = some (r, s')) : Con G yX6_judge cX6_judge 6 (some .int) rm_X6_judge [.ref (gad G 0), .int v1, .int v2, .int v3] (wX G s0) (some (.int r)) (wX G s') := by
  unfold X6_judge at h
  refine con_of (by decide +kernel) (Nat.le_of_ble_eq_true rfl) (fun {p e s m below meth c} C hr {H locs ls} B hl => ?_)
  have hx := C.1
  have hb := C.2.1
  have hl : lv_has ls 6 [(0, .ref (gad G 0)), (1, .int v1), (2, .int v2), (3, .int v3)] := hl
  refine lv_iload_n hx hb dX6_judge_0 rfl (lv_at hl 1 rfl) ?_
  obtain ⟨r1, q2, h⟩ := bd_o h
  refine r_callSi (rest := []) C B.2.2 hl (c_X6_isRow G v1 r1 q2) cs_X6_212 rfl rfl (Nat.le_of_ble_eq_true rfl) ⟨rfl, rfl, Nat.le_of_ble_eq_true rfl, Nat.le_of_ble_eq_true rfl⟩ dX6_judge_1 ?_
  refine lv_if_eq (tgt := 14) hx hb dX6_judge_4 (by decide) (fun q3 => ?_) (fun q3 => ?_)
  · have h := ip h q3
    refine lv_iconst (v := (-1 : Int32)) hx hb dX6_judge_14 rfl ?_
    obtain ⟨rfl, rfl⟩ := ret2 h
    exact r_iret C B hr rfl dX6_judge_15
  · have h := ig h q3
    refine lv_iload_n hx hb dX6_judge_7 rfl (lv_at hl 2 rfl) ?_
    obtain ⟨r4, q5, h⟩ := bd_o h
    refine r_callSi (rest := []) C B.2.2 hl (c_X6_isSide G v2 r4 q5) cs_X6_113 rfl rfl (Nat.le_of_ble_eq_true rfl) ⟨rfl, rfl, Nat.le_of_ble_eq_true rfl, Nat.le_of_ble_eq_true rfl⟩ dX6_judge_8 ?_
    refine lv_if_ne (tgt := 16) hx hb dX6_judge_11 (by decide) (fun q6 => ?_) (fun q6 => ?_)
    · have h := ig h q6
      refine lv_aload_n hx hb dX6_judge_16 rfl (lv_at hl 0 rfl) ?_
      refine r_get C B fo_X6_10 (cX_0 G s0) rfl dX6_judge_17 ?_
      refine lv_iload_n hx hb dX6_judge_20 rfl (lv_at hl 3 rfl) ?_
      obtain ⟨r8, q7, h⟩ := bd_o h
      refine r_callVi (rest := []) C B hl (c_X4_isSet G s0 v3 r8 q7) cs_X6_79 (cX_1 G s0) rfl rfl rfl (Nat.le_of_ble_eq_true rfl) ⟨rfl, rfl, Nat.le_of_ble_eq_true rfl, Nat.le_of_ble_eq_true rfl⟩ dX6_judge_21 (fun H locs B => ?_)
      refine lv_if_ne (tgt := 30) hx hb dX6_judge_24 (by decide) (fun q9 => ?_) (fun q9 => ?_)
      · have h := ig h q9
        refine lv_aload_n hx hb dX6_judge_30 rfl (lv_at hl 0 rfl) ?_
        refine lv_iload_n hx hb dX6_judge_31 rfl (lv_at hl 1 rfl) ?_
        obtain ⟨r11, q10, h⟩ := bd_o h
        refine r_callVi (rest := []) C B hl (c_X6_isThere G s0 v1 r11 q10) cs_X6_215 (cX_0 G s0) rfl rfl rfl (Nat.le_of_ble_eq_true rfl) ⟨rfl, rfl, Nat.le_of_ble_eq_true rfl, Nat.le_of_ble_eq_true rfl⟩ dX6_judge_32 (fun H locs B => ?_)
        refine lv_if_ne (tgt := 41) hx hb dX6_judge_35 (by decide) (fun q12 => ?_) (fun q12 => ?_)
        · have h := ig h q12
          refine lv_aload_n hx hb dX6_judge_41 rfl (lv_at hl 0 rfl) ?_
          obtain ⟨s14, q13, h⟩ := bd_o h
          refine r_callVa (rest := []) C B hl (c_X6_freshRanks G n s0 s14 q13) cs_X6_116 (cX_0 G s0) rfl rfl rfl (Nat.le_of_ble_eq_true rfl) ⟨rfl, rfl, Nat.le_of_ble_eq_true rfl, Nat.le_of_ble_eq_true rfl⟩ dX6_judge_42 (fun H locs B => ?_)
          refine lv_astore (lv' := [(4, .ref (gad G 9)), (0, .ref (gad G 0)), (1, .int v1), (2, .int v2), (3, .int v3)]) hx hb dX6_judge_45 hl (by decide) rfl (fun ls hl => ?_)
          refine lv_iconst (v := (0 : Int32)) hx hb dX6_judge_47 rfl ?_
          refine lv_istore (lv' := [(5, .int (0 : Int32)), (4, .ref (gad G 9)), (0, .ref (gad G 0)), (1, .int v1), (2, .int v2), (3, .int v3)]) hx hb dX6_judge_48 hl (by decide) rfl (fun ls hl => ?_)
          obtain ⟨e39, q40, h⟩ := bd_o h
          refine l_X6_judge_L1 C hr s14 v1 v2 v3 n (0 : Int32) e39 q40 (fun rv q => by have h := sm_l h q; cases h; rfl) (fun e41 q42 => ?_) H locs ls B (lv_sub hl [1, 2, 3, 4, 5, 0] rfl)
          have h := sm_r h q42
          intro H locs ls B hl
          refine lv_bipush (v := (100 : Int32)) hx hb dX6_judge_106 rfl ?_
          refine lv_aload_n hx hb dX6_judge_108 rfl (lv_at hl 0 rfl) ?_
          refine r_get C B fo_X6_42 (cX_0 G s14) rfl dX6_judge_109 ?_
          refine lv_iload_n hx hb dX6_judge_112 rfl (lv_at hl 1 rfl) ?_
          obtain ⟨q43, h⟩ := gd_o h
          refine r_iald C B (cX_26 G s14) (inb_vp q43) dX6_judge_113 ?_
          refine lv_iadd hx hb dX6_judge_114 ?_
          obtain ⟨rfl, rfl⟩ := ret2 h
          exact r_iret C B hr rfl dX6_judge_115
        · have h := ip h q12
          refine lv_bipush (v := (-11 : Int32)) hx hb dX6_judge_38 rfl ?_
          obtain ⟨rfl, rfl⟩ := ret2 h
          exact r_iret C B hr rfl dX6_judge_40
      · have h := ip h q9
        refine lv_bipush (v := (-2 : Int32)) hx hb dX6_judge_27 rfl ?_
        obtain ⟨rfl, rfl⟩ := ret2 h
        exact r_iret C B hr rfl dX6_judge_29
    · have h := ip h q6
      refine lv_iconst (v := (-1 : Int32)) hx hb dX6_judge_14 rfl ?_
      obtain ⟨rfl, rfl⟩ := ret2 h
      exact r_iret C B hr rfl dX6_judge_15
def rm_X6_feed : Room := { frames := 0, cells := 0, slots := 0, locals := 0 }
set_option maxRecDepth 100000 in
set_option maxHeartbeats 4000000 in
theorem c_X6_feed (G : GT) (s0 : ST) (v1 : Int32) (r : Int32) (s' : ST) (h : X6_feed s0 v1 = some (r, s')) : Con G yX6_feed cX6_feed 2 (some .int) rm_X6_feed [.ref (gad G 0), .int v1] (wX G s0) (some (.int r)) (wX G s') := by
  unfold X6_feed at h
  refine con_of (by decide +kernel) (Nat.le_of_ble_eq_true rfl) (fun {p e s m below meth c} C hr {H locs ls} B hl => ?_)
  have hx := C.1
  have hb := C.2.1
  have hl : lv_has ls 2 [(0, .ref (gad G 0)), (1, .int v1)] := hl
  refine lv_iload_n hx hb dX6_feed_0 rfl (lv_at hl 1 rfl) ?_
  refine lv_bipush (v := (32 : Int32)) hx hb dX6_feed_1 rfl ?_
  refine lv_icmp_lt (tgt := 12) hx hb dX6_feed_3 (by decide) (fun q1 => ?_) (fun q1 => ?_)
  · have h := ip h q1
    refine lv_bipush (v := (-2 : Int32)) hx hb dX6_feed_12 rfl ?_
    obtain ⟨rfl, rfl⟩ := ret2 h
    exact r_iret C B hr rfl dX6_feed_14
  · have h := ig h q1
    refine lv_iload_n hx hb dX6_feed_6 rfl (lv_at hl 1 rfl) ?_
    refine lv_bipush (v := (126 : Int32)) hx hb dX6_feed_7 rfl ?_
    refine lv_icmp_le (tgt := 15) hx hb dX6_feed_9 (by decide) (fun q2 => ?_) (fun q2 => ?_)
    · have h := ip h q2
      refine lv_aload_n hx hb dX6_feed_15 rfl (lv_at hl 0 rfl) ?_
      refine r_get C B fo_X6_49 (cX_0 G s0) rfl dX6_feed_16 ?_
      refine r_get C B fo_X6_231 (cX_27 G s0) rfl dX6_feed_19 ?_
      refine lv_bipush (v := (120 : Int32)) hx hb dX6_feed_22 rfl ?_
      refine lv_icmp_lt (tgt := 30) hx hb dX6_feed_24 (by decide) (fun q3 => ?_) (fun q3 => ?_)
      · have h := ip h q3
        refine lv_aload_n hx hb dX6_feed_30 rfl (lv_at hl 0 rfl) ?_
        refine r_get C B fo_X6_49 (cX_0 G s0) rfl dX6_feed_31 ?_
        refine r_get C B fo_X6_234 (cX_27 G s0) rfl dX6_feed_34 ?_
        refine lv_aload_n hx hb dX6_feed_37 rfl (lv_at hl 0 rfl) ?_
        refine r_get C B fo_X6_49 (cX_0 G s0) rfl dX6_feed_38 ?_
        refine r_get C B fo_X6_231 (cX_27 G s0) rfl dX6_feed_41 ?_
        refine lv_iload_n hx hb dX6_feed_44 rfl (lv_at hl 1 rfl) ?_
        refine lv_i2c hx hb dX6_feed_45 rfl ?_
        obtain ⟨q4, h⟩ := gd_o h
        obtain ⟨q7, h⟩ := gd_o h
        obtain ⟨s5, q6, h⟩ := nm_o h
        refine r_cast C B (cX_28 G s0) (inb_vp q4) q7 ((uXa_15 G s0 _).trans (congrArg (wX G) q6.symm)) dX6_feed_46 (fun H locs B => ?_)
        refine lv_aload_n hx hb dX6_feed_47 rfl (lv_at hl 0 rfl) ?_
        refine r_get C B fo_X6_49 (cX_0 G s5) rfl dX6_feed_48 ?_
        refine lv_dup hx hb dX6_feed_51 rfl ?_
        refine r_get C B fo_X6_231 (cX_27 G s5) rfl dX6_feed_52 ?_
        refine lv_iconst (v := (1 : Int32)) hx hb dX6_feed_55 rfl ?_
        refine lv_iadd hx hb dX6_feed_56 ?_
        obtain ⟨s8, q9, h⟩ := nm_o h
        refine r_put C B fp_X6_231 (cX_27 G s5) (Nat.le_of_ble_eq_true rfl) rfl rfl ((uXs_11 G s5 _).trans (congrArg (wX G) q9.symm)) dX6_feed_57 (fun H locs B => ?_)
        refine lv_aload_n hx hb dX6_feed_60 rfl (lv_at hl 0 rfl) ?_
        refine r_get C B fo_X6_49 (cX_0 G s8) rfl dX6_feed_61 ?_
        refine r_get C B fo_X6_231 (cX_27 G s8) rfl dX6_feed_64 ?_
        obtain ⟨rfl, rfl⟩ := ret2 h
        exact r_iret C B hr rfl dX6_feed_67
      · have h := ig h q3
        refine lv_bipush (v := (-4 : Int32)) hx hb dX6_feed_27 rfl ?_
        obtain ⟨rfl, rfl⟩ := ret2 h
        exact r_iret C B hr rfl dX6_feed_29
    · have h := ig h q2
      refine lv_bipush (v := (-2 : Int32)) hx hb dX6_feed_12 rfl ?_
      obtain ⟨rfl, rfl⟩ := ret2 h
      exact r_iret C B hr rfl dX6_feed_14
def rm_X6_wipe : Room := { frames := 0, cells := 0, slots := 0, locals := 0 }
set_option maxRecDepth 100000 in
set_option maxHeartbeats 4000000 in
theorem c_X6_wipe (G : GT) (s0 : ST)  (r : Int32) (s' : ST) (h : X6_wipe s0  = some (r, s')) : Con G yX6_wipe cX6_wipe 2 (some .int) rm_X6_wipe [.ref (gad G 0)] (wX G s0) (some (.int r)) (wX G s') := by
  unfold X6_wipe at h
  refine con_of (by decide +kernel) (Nat.le_of_ble_eq_true rfl) (fun {p e s m below meth c} C hr {H locs ls} B hl => ?_)
  have hx := C.1
  have hb := C.2.1
  have hl : lv_has ls 2 [(0, .ref (gad G 0))] := hl
  refine lv_aload_n hx hb dX6_wipe_0 rfl (lv_at hl 0 rfl) ?_
  refine r_get C B fo_X6_49 (cX_0 G s0) rfl dX6_wipe_1 ?_
  refine r_get C B fo_X6_231 (cX_27 G s0) rfl dX6_wipe_4 ?_
  obtain ⟨v1_1, q2, h⟩ := nm_o h
  refine r_nm q2 ?_
  refine lv_istore_n (lv' := [(1, .int v1_1), (0, .ref (gad G 0))]) hx hb dX6_wipe_7 rfl hl (by decide) rfl (fun ls hl => ?_)
  refine lv_aload_n hx hb dX6_wipe_8 rfl (lv_at hl 1 rfl) ?_
  refine r_get C B fo_X6_49 (cX_0 G s0) rfl dX6_wipe_9 ?_
  refine lv_iconst (v := (0 : Int32)) hx hb dX6_wipe_12 rfl ?_
  obtain ⟨s3, q4, h⟩ := nm_o h
  refine r_put C B fp_X6_231 (cX_27 G s0) (Nat.le_of_ble_eq_true rfl) rfl rfl ((uXs_11 G s0 _).trans (congrArg (wX G) q4.symm)) dX6_wipe_13 (fun H locs B => ?_)
  refine lv_iload_n hx hb dX6_wipe_16 rfl (lv_at hl 0 rfl) ?_
  obtain ⟨rfl, rfl⟩ := ret2 h
  exact r_iret C B hr rfl dX6_wipe_17
def rm_X5_rewind : Room := { frames := 0, cells := 0, slots := 0, locals := 0 }
set_option maxRecDepth 100000 in
set_option maxHeartbeats 4000000 in
theorem c_X5_rewind (G : GT) (s0 : ST)  (s' : ST) (h : X5_rewind s0  = some s') : Con G yX5_rewind cX5_rewind 1 none rm_X5_rewind [.ref (gad G 27)] (wX G s0) none (wX G s') := by
  unfold X5_rewind at h
  refine con_of (by decide +kernel) (Nat.le_of_ble_eq_true rfl) (fun {p e s m below meth c} C hr {H locs ls} B hl => ?_)
  have hx := C.1
  have hb := C.2.1
  have hl : lv_has ls 1 [(0, .ref (gad G 27))] := hl
  refine lv_aload_n hx hb dX5_rewind_0 rfl (lv_at hl 0 rfl) ?_
  refine lv_iconst (v := (0 : Int32)) hx hb dX5_rewind_1 rfl ?_
  obtain ⟨s1, q2, h⟩ := nm_o h
  refine r_put C B fp_X5_31 (cX_27 G s0) (Nat.le_of_ble_eq_true rfl) rfl rfl ((uXs_16 G s0 _).trans (congrArg (wX G) q2.symm)) dX5_rewind_2 (fun H locs B => ?_)
  refine lv_aload_n hx hb dX5_rewind_5 rfl (lv_at hl 0 rfl) ?_
  refine lv_iconst (v := (-1 : Int32)) hx hb dX5_rewind_6 rfl ?_
  obtain ⟨s3, q4, h⟩ := nm_o h
  refine r_put C B fp_X5_34 (cX_27 G s1) (Nat.le_of_ble_eq_true rfl) rfl rfl ((uXs_17 G s1 _).trans (congrArg (wX G) q4.symm)) dX5_rewind_7 (fun H locs B => ?_)
  obtain rfl := ret1 h
  exact r_vret C B hr dX5_rewind_10
def rm_X5_isWord : Room := { frames := 4, cells := 0, slots := 0, locals := 85 }
set_option maxRecDepth 100000 in
set_option maxHeartbeats 4000000 in
theorem l_X5_isWord_L1 {G : GT} {p : Program} {e : Env} {s : State} {m : MethodId} {args : Array Value} {below : List Frame} {meth : Method} {c : Code} {Q : State → Prop} (C : CT G p s m meth c args cX5_isWord 4 RX5) (hr : meth.sig.returnType = (some .boolean)) (s0 : ST) (v1 : Nat) (v2 : Int32) : ∀ (k : Nat) (v3 : Int32) (e1 : (Int32) ⊕ (Unit)), X5_isWord_L1 s0 v1 v2 k v3 = some e1 → (∀ rv, e1 = Sum.inl rv → Q = QR G below args s (some (.int rv)) (wX G s0)) → (∀ ex, e1 = Sum.inr ex → Kn G p e rm_X5_isWord s m args below meth c Q 4 49 [] (wX G s0)) → Kn G p e rm_X5_isWord s m args below meth c Q 4 17 [(0, .ref (gad G 27)), (1, .ref (gK G v1)), (2, .int v2), (3, .int v3)] (wX G s0) := by
  have hx := C.1
  have hb := C.2.1
  intro k
  induction k with
  | zero =>
    intro v3 e1 h
    exact nso h
  | succ k ih =>
    intro v3 e1 h hret hk H locs ls B hl
    have h : X5_isWord_L1_b s0 v1 v2 (X5_isWord_L1 s0 v1 v2 k) v3 = some e1 := h
    unfold X5_isWord_L1_b at h
    refine lv_iload_n hx hb dX5_isWord_17 rfl (lv_at hl 3 rfl) ?_
    refine lv_aload_n hx hb dX5_isWord_18 rfl (lv_at hl 1 rfl) ?_
    obtain ⟨r4, q5, h⟩ := bd_o h
    refine r_callTi (rest := [.int v3]) C B.2.2 hl (txok_length q5) rfl (c_Tlength G v1 r4 q5) cs_X5_73 rfl rfl (Nat.le_of_ble_eq_true rfl) ⟨rfl, rfl, Nat.le_of_ble_eq_true rfl, Nat.le_of_ble_eq_true rfl⟩ dX5_isWord_19 ?_
    refine lv_icmp_ge (tgt := 49) hx hb dX5_isWord_22 (by decide) (fun q6 => ?_) (fun q6 => ?_)
    · have h := ip h q6
      obtain rfl := ret1 h
      exact hk _ rfl H locs ls B (lv_sub hl [] rfl)
    · have h := ig h q6
      refine lv_aload_n hx hb dX5_isWord_25 rfl (lv_at hl 0 rfl) ?_
      refine r_get C B fo_X5_9 (cX_27 G s0) rfl dX5_isWord_26 ?_
      refine lv_iload_n hx hb dX5_isWord_29 rfl (lv_at hl 2 rfl) ?_
      refine lv_iload_n hx hb dX5_isWord_30 rfl (lv_at hl 3 rfl) ?_
      refine lv_iadd hx hb dX5_isWord_31 ?_
      obtain ⟨q7, h⟩ := gd_o h
      refine r_cald C B (cX_28 G s0) (inb_vp q7) dX5_isWord_32 ?_
      refine lv_aload_n hx hb dX5_isWord_33 rfl (lv_at hl 1 rfl) ?_
      refine lv_iload_n hx hb dX5_isWord_34 rfl (lv_at hl 3 rfl) ?_
      obtain ⟨r8, q9, h⟩ := bd_o h
      refine r_callTi (rest := [.int (s0.2.1 15 ((v2 + v3)).toNatClampNeg)]) C B.2.2 hl (txok_charAt q9) rfl (c_TcharAt G v1 v3 r8 q9) cs_X5_78 rfl rfl (Nat.le_of_ble_eq_true rfl) ⟨rfl, rfl, Nat.le_of_ble_eq_true rfl, Nat.le_of_ble_eq_true rfl⟩ dX5_isWord_35 ?_
      refine lv_icmp_eq (tgt := 43) hx hb dX5_isWord_38 (by decide) (fun q10 => ?_) (fun q10 => ?_)
      · have h := ip h q10
        obtain ⟨v3_11, q12, h⟩ := nm_o h
        refine lv_iinc (v := v3_11) (lv' := [(3, .int v3_11), (0, .ref (gad G 27)), (1, .ref (gK G v1)), (2, .int v2)]) hx hb dX5_isWord_43 hl (k := 3) rfl q12.symm (by decide) rfl (fun ls hl => ?_)
        refine lv_goto (tgt := 17) hx hb dX5_isWord_46 (by decide) ?_
        exact ih v3_11 e1 h hret hk H locs ls B (lv_sub hl [1, 2, 3, 0] rfl)
      · have h := ig h q10
        refine lv_iconst (v := (0 : Int32)) hx hb dX5_isWord_41 rfl ?_
        obtain rfl := ret1 h
        rw [hret _ rfl]
        exact r_iret C B hr nar_0 dX5_isWord_42
set_option maxRecDepth 100000 in
set_option maxHeartbeats 4000000 in
theorem c_X5_isWord (G : GT) (n : Nat) (s0 : ST) (v1 : Nat) (v2 : Int32) (r : Int32) (h : X5_isWord n s0 v1 v2 = some r) : Con G yX5_isWord cX5_isWord 4 (some .boolean) rm_X5_isWord [.ref (gad G 27), .ref (gK G v1), .int v2] (wX G s0) (some (.int r)) (wX G s0) := by
  unfold X5_isWord at h
  refine con_of (by decide +kernel) (Nat.le_of_ble_eq_true rfl) (fun {p e s m below meth c} C hr {H locs ls} B hl => ?_)
  have hx := C.1
  have hb := C.2.1
  have hl : lv_has ls 4 [(0, .ref (gad G 27)), (1, .ref (gK G v1)), (2, .int v2)] := hl
  refine lv_aload_n hx hb dX5_isWord_0 rfl (lv_at hl 0 rfl) ?_
  refine r_get C B fo_X5_31 (cX_27 G s0) rfl dX5_isWord_1 ?_
  refine lv_iload_n hx hb dX5_isWord_4 rfl (lv_at hl 2 rfl) ?_
  refine lv_isub hx hb dX5_isWord_5 ?_
  refine lv_aload_n hx hb dX5_isWord_6 rfl (lv_at hl 1 rfl) ?_
  obtain ⟨r1, q2, h⟩ := bd_o h
  refine r_callTi (rest := [.int ((s0.1 16) - v2)]) C B.2.2 hl (txok_length q2) rfl (c_Tlength G v1 r1 q2) cs_X5_73 rfl rfl (Nat.le_of_ble_eq_true rfl) ⟨rfl, rfl, Nat.le_of_ble_eq_true rfl, Nat.le_of_ble_eq_true rfl⟩ dX5_isWord_7 ?_
  refine lv_icmp_eq (tgt := 15) hx hb dX5_isWord_10 (by decide) (fun q3 => ?_) (fun q3 => ?_)
  · have h := ip h q3
    refine lv_iconst (v := (0 : Int32)) hx hb dX5_isWord_15 rfl ?_
    refine lv_istore_n (lv' := [(3, .int (0 : Int32)), (0, .ref (gad G 27)), (1, .ref (gK G v1)), (2, .int v2)]) hx hb dX5_isWord_16 rfl hl (by decide) rfl (fun ls hl => ?_)
    obtain ⟨e13, q14, h⟩ := bd_o h
    refine l_X5_isWord_L1 C hr s0 v1 v2 n (0 : Int32) e13 q14 (fun rv q => by have h := sm_l h q; cases h; rfl) (fun e15 q16 => ?_) H locs ls B (lv_sub hl [1, 2, 3, 0] rfl)
    have h := sm_r h q16
    intro H locs ls B hl
    refine lv_iconst (v := (1 : Int32)) hx hb dX5_isWord_49 rfl ?_
    obtain rfl := ret1 h
    exact r_iret C B hr nar_1 dX5_isWord_50
  · have h := ig h q3
    refine lv_iconst (v := (0 : Int32)) hx hb dX5_isWord_13 rfl ?_
    obtain rfl := ret1 h
    exact r_iret C B hr nar_0 dX5_isWord_14
def rm_X5_wordFrom : Room := { frames := 5, cells := 0, slots := 0, locals := 108 }
set_option maxRecDepth 100000 in
set_option maxHeartbeats 4000000 in
theorem c_X5_wordFrom (G : GT) (n : Nat) (s0 : ST) (v1 : Int32) (r : Int32) (h : X5_wordFrom n s0 v1 = some r) : Con G yX5_wordFrom cX5_wordFrom 2 (some .int) rm_X5_wordFrom [.ref (gad G 27), .int v1] (wX G s0) (some (.int r)) (wX G s0) := by
  unfold X5_wordFrom at h
  refine con_of (by decide +kernel) (Nat.le_of_ble_eq_true rfl) (fun {p e s m below meth c} C hr {H locs ls} B hl => ?_)
  have hx := C.1
  have hb := C.2.1
  have hl : lv_has ls 2 [(0, .ref (gad G 27)), (1, .int v1)] := hl
  refine lv_aload_n hx hb dX5_wordFrom_0 rfl (lv_at hl 0 rfl) ?_
  refine r_ldcs (k := 0) (tx := "posts") C (by decide +kernel) dX5_wordFrom_1 ?_
  refine lv_iload_n hx hb dX5_wordFrom_3 rfl (lv_at hl 1 rfl) ?_
  obtain ⟨r2, q1, h⟩ := bd_o h
  refine r_callVi (rest := []) C B hl (c_X5_isWord G n s0 0 v1 r2 q1) cs_X5_59 (cX_27 G s0) rfl rfl rfl (Nat.le_of_ble_eq_true rfl) ⟨rfl, rfl, Nat.le_of_ble_eq_true rfl, Nat.le_of_ble_eq_true rfl⟩ dX5_wordFrom_4 (fun H locs B => ?_)
  refine lv_if_eq (tgt := 12) hx hb dX5_wordFrom_7 (by decide) (fun q3 => ?_) (fun q3 => ?_)
  · have h := ip h q3
    refine lv_aload_n hx hb dX5_wordFrom_12 rfl (lv_at hl 0 rfl) ?_
    refine r_ldcs (k := 1) (tx := "road") C (by decide +kernel) dX5_wordFrom_13 ?_
    refine lv_iload_n hx hb dX5_wordFrom_15 rfl (lv_at hl 1 rfl) ?_
    obtain ⟨r5, q4, h⟩ := bd_o h
    refine r_callVi (rest := []) C B hl (c_X5_isWord G n s0 1 v1 r5 q4) cs_X5_59 (cX_27 G s0) rfl rfl rfl (Nat.le_of_ble_eq_true rfl) ⟨rfl, rfl, Nat.le_of_ble_eq_true rfl, Nat.le_of_ble_eq_true rfl⟩ dX5_wordFrom_16 (fun H locs B => ?_)
    refine lv_if_eq (tgt := 24) hx hb dX5_wordFrom_19 (by decide) (fun q6 => ?_) (fun q6 => ?_)
    · have h := ip h q6
      refine lv_aload_n hx hb dX5_wordFrom_24 rfl (lv_at hl 0 rfl) ?_
      refine r_ldcs (k := 2) (tx := "block") C (by decide +kernel) dX5_wordFrom_25 ?_
      refine lv_iload_n hx hb dX5_wordFrom_27 rfl (lv_at hl 1 rfl) ?_
      obtain ⟨r8, q7, h⟩ := bd_o h
      refine r_callVi (rest := []) C B hl (c_X5_isWord G n s0 2 v1 r8 q7) cs_X5_59 (cX_27 G s0) rfl rfl rfl (Nat.le_of_ble_eq_true rfl) ⟨rfl, rfl, Nat.le_of_ble_eq_true rfl, Nat.le_of_ble_eq_true rfl⟩ dX5_wordFrom_28 (fun H locs B => ?_)
      refine lv_if_eq (tgt := 36) hx hb dX5_wordFrom_31 (by decide) (fun q9 => ?_) (fun q9 => ?_)
      · have h := ip h q9
        refine lv_aload_n hx hb dX5_wordFrom_36 rfl (lv_at hl 0 rfl) ?_
        refine r_ldcs (k := 3) (tx := "to") C (by decide +kernel) dX5_wordFrom_37 ?_
        refine lv_iload_n hx hb dX5_wordFrom_39 rfl (lv_at hl 1 rfl) ?_
        obtain ⟨r11, q10, h⟩ := bd_o h
        refine r_callVi (rest := []) C B hl (c_X5_isWord G n s0 3 v1 r11 q10) cs_X5_59 (cX_27 G s0) rfl rfl rfl (Nat.le_of_ble_eq_true rfl) ⟨rfl, rfl, Nat.le_of_ble_eq_true rfl, Nat.le_of_ble_eq_true rfl⟩ dX5_wordFrom_40 (fun H locs B => ?_)
        refine lv_if_eq (tgt := 48) hx hb dX5_wordFrom_43 (by decide) (fun q12 => ?_) (fun q12 => ?_)
        · have h := ip h q12
          refine lv_aload_n hx hb dX5_wordFrom_48 rfl (lv_at hl 0 rfl) ?_
          refine r_ldcs (k := 4) (tx := "set") C (by decide +kernel) dX5_wordFrom_49 ?_
          refine lv_iload_n hx hb dX5_wordFrom_51 rfl (lv_at hl 1 rfl) ?_
          obtain ⟨r14, q13, h⟩ := bd_o h
          refine r_callVi (rest := []) C B hl (c_X5_isWord G n s0 4 v1 r14 q13) cs_X5_59 (cX_27 G s0) rfl rfl rfl (Nat.le_of_ble_eq_true rfl) ⟨rfl, rfl, Nat.le_of_ble_eq_true rfl, Nat.le_of_ble_eq_true rfl⟩ dX5_wordFrom_52 (fun H locs B => ?_)
          refine lv_if_eq (tgt := 60) hx hb dX5_wordFrom_55 (by decide) (fun q15 => ?_) (fun q15 => ?_)
          · have h := ip h q15
            refine lv_aload_n hx hb dX5_wordFrom_60 rfl (lv_at hl 0 rfl) ?_
            refine r_ldcs (k := 5) (tx := "weigh") C (by decide +kernel) dX5_wordFrom_61 ?_
            refine lv_iload_n hx hb dX5_wordFrom_63 rfl (lv_at hl 1 rfl) ?_
            obtain ⟨r17, q16, h⟩ := bd_o h
            refine r_callVi (rest := []) C B hl (c_X5_isWord G n s0 5 v1 r17 q16) cs_X5_59 (cX_27 G s0) rfl rfl rfl (Nat.le_of_ble_eq_true rfl) ⟨rfl, rfl, Nat.le_of_ble_eq_true rfl, Nat.le_of_ble_eq_true rfl⟩ dX5_wordFrom_64 (fun H locs B => ?_)
            refine lv_if_eq (tgt := 73) hx hb dX5_wordFrom_67 (by decide) (fun q18 => ?_) (fun q18 => ?_)
            · have h := ip h q18
              refine lv_iconst (v := (0 : Int32)) hx hb dX5_wordFrom_73 rfl ?_
              obtain rfl := ret1 h
              exact r_iret C B hr rfl dX5_wordFrom_74
            · have h := ig h q18
              refine lv_bipush (v := (6 : Int32)) hx hb dX5_wordFrom_70 rfl ?_
              obtain rfl := ret1 h
              exact r_iret C B hr rfl dX5_wordFrom_72
          · have h := ig h q15
            refine lv_iconst (v := (5 : Int32)) hx hb dX5_wordFrom_58 rfl ?_
            obtain rfl := ret1 h
            exact r_iret C B hr rfl dX5_wordFrom_59
        · have h := ig h q12
          refine lv_iconst (v := (4 : Int32)) hx hb dX5_wordFrom_46 rfl ?_
          obtain rfl := ret1 h
          exact r_iret C B hr rfl dX5_wordFrom_47
      · have h := ig h q9
        refine lv_iconst (v := (3 : Int32)) hx hb dX5_wordFrom_34 rfl ?_
        obtain rfl := ret1 h
        exact r_iret C B hr rfl dX5_wordFrom_35
    · have h := ig h q6
      refine lv_iconst (v := (2 : Int32)) hx hb dX5_wordFrom_22 rfl ?_
      obtain rfl := ret1 h
      exact r_iret C B hr rfl dX5_wordFrom_23
  · have h := ig h q3
    refine lv_iconst (v := (1 : Int32)) hx hb dX5_wordFrom_10 rfl ?_
    obtain rfl := ret1 h
    exact r_iret C B hr rfl dX5_wordFrom_11
def rm_X5_isFigure : Room := { frames := 0, cells := 0, slots := 0, locals := 0 }
set_option maxRecDepth 100000 in
set_option maxHeartbeats 4000000 in
theorem c_X5_isFigure (G : GT) (s0 : ST)  (r : Int32) (h : X5_isFigure s0  = some r) : Con G yX5_isFigure cX5_isFigure 1 (some .boolean) rm_X5_isFigure [.ref (gad G 27)] (wX G s0) (some (.int r)) (wX G s0) := by
  unfold X5_isFigure at h
  refine con_of (by decide +kernel) (Nat.le_of_ble_eq_true rfl) (fun {p e s m below meth c} C hr {H locs ls} B hl => ?_)
  have hx := C.1
  have hb := C.2.1
  have hl : lv_has ls 1 [(0, .ref (gad G 27))] := hl
  refine lv_aload_n hx hb dX5_isFigure_0 rfl (lv_at hl 0 rfl) ?_
  refine r_get C B fo_X5_31 (cX_27 G s0) rfl dX5_isFigure_1 ?_
  refine lv_aload_n hx hb dX5_isFigure_4 rfl (lv_at hl 0 rfl) ?_
  refine r_get C B fo_X5_15 (cX_27 G s0) rfl dX5_isFigure_5 ?_
  refine lv_icmp_ge (tgt := 43) hx hb dX5_isFigure_8 (by decide) (fun q1 => ?_) (fun q1 => ?_)
  · have h := ip h q1
    refine lv_iconst (v := (0 : Int32)) hx hb dX5_isFigure_43 rfl ?_
    obtain rfl := ret1 h
    exact r_iret C B hr nar_0 dX5_isFigure_44
  · have h := ig h q1
    refine lv_aload_n hx hb dX5_isFigure_11 rfl (lv_at hl 0 rfl) ?_
    refine r_get C B fo_X5_9 (cX_27 G s0) rfl dX5_isFigure_12 ?_
    refine lv_aload_n hx hb dX5_isFigure_15 rfl (lv_at hl 0 rfl) ?_
    refine r_get C B fo_X5_31 (cX_27 G s0) rfl dX5_isFigure_16 ?_
    obtain ⟨q2, h⟩ := gd_o h
    refine r_cald C B (cX_28 G s0) (inb_vp q2) dX5_isFigure_19 ?_
    refine lv_bipush (v := (48 : Int32)) hx hb dX5_isFigure_20 rfl ?_
    refine lv_icmp_lt (tgt := 43) hx hb dX5_isFigure_22 (by decide) (fun q3 => ?_) (fun q3 => ?_)
    · have h := ip h q3
      refine lv_iconst (v := (0 : Int32)) hx hb dX5_isFigure_43 rfl ?_
      obtain rfl := ret1 h
      exact r_iret C B hr nar_0 dX5_isFigure_44
    · have h := ig h q3
      refine lv_aload_n hx hb dX5_isFigure_25 rfl (lv_at hl 0 rfl) ?_
      refine r_get C B fo_X5_9 (cX_27 G s0) rfl dX5_isFigure_26 ?_
      refine lv_aload_n hx hb dX5_isFigure_29 rfl (lv_at hl 0 rfl) ?_
      refine r_get C B fo_X5_31 (cX_27 G s0) rfl dX5_isFigure_30 ?_
      obtain ⟨q4, h⟩ := gd_o h
      refine r_cald C B (cX_28 G s0) (inb_vp q4) dX5_isFigure_33 ?_
      refine lv_bipush (v := (57 : Int32)) hx hb dX5_isFigure_34 rfl ?_
      refine lv_icmp_gt (tgt := 43) hx hb dX5_isFigure_36 (by decide) (fun q5 => ?_) (fun q5 => ?_)
      · have h := ip h q5
        refine lv_iconst (v := (0 : Int32)) hx hb dX5_isFigure_43 rfl ?_
        obtain rfl := ret1 h
        exact r_iret C B hr nar_0 dX5_isFigure_44
      · have h := ig h q5
        refine lv_iconst (v := (1 : Int32)) hx hb dX5_isFigure_39 rfl ?_
        refine lv_goto (tgt := 44) hx hb dX5_isFigure_40 (by decide) ?_
        obtain rfl := ret1 h
        exact r_iret C B hr nar_1 dX5_isFigure_44
def rm_X5_takeNumber : Room := { frames := 1, cells := 0, slots := 0, locals := 20 }
set_option maxRecDepth 100000 in
set_option maxHeartbeats 4000000 in
theorem l_X5_takeNumber_L1 {G : GT} {p : Program} {e : Env} {s : State} {m : MethodId} {args : Array Value} {below : List Frame} {meth : Method} {c : Code} {Q : State → Prop} (C : CT G p s m meth c args cX5_takeNumber 4 RX5) (hr : meth.sig.returnType = (some .int)) (v1 : Int32) : ∀ (k : Nat) (v3 : Int32) (v2 : Int32) (s0 : ST) (e1 : Int32 × ST), X5_takeNumber_L1 v1 k v3 v2 s0 = some e1 → Kn G p e rm_X5_takeNumber s m args below meth c Q 4 122 [(2, .int e1.1)] (wX G e1.2) → Kn G p e rm_X5_takeNumber s m args below meth c Q 4 76 [(0, .ref (gad G 27)), (1, .int v1), (3, .int v3), (2, .int v2)] (wX G s0) := by
  have hx := C.1
  have hb := C.2.1
  intro k
  induction k with
  | zero =>
    intro v3 v2 s0 e1 h
    exact nso h
  | succ k ih =>
    intro v3 v2 s0 e1 h hk H locs ls B hl
    have h : X5_takeNumber_L1_b v1 (X5_takeNumber_L1 v1 k) v3 v2 s0 = some e1 := h
    unfold X5_takeNumber_L1_b at h
    refine lv_iload_n hx hb dX5_takeNumber_76 rfl (lv_at hl 2 rfl) ?_
    refine lv_iload_n hx hb dX5_takeNumber_77 rfl (lv_at hl 1 rfl) ?_
    refine lv_icmp_ge (tgt := 122) hx hb dX5_takeNumber_78 (by decide) (fun q12 => ?_) (fun q12 => ?_)
    · have h := ip h q12
      obtain rfl := ret1 h
      exact hk H locs ls B (lv_sub hl [3] rfl)
    · have h := ig h q12
      refine lv_aload_n hx hb dX5_takeNumber_81 rfl (lv_at hl 0 rfl) ?_
      obtain ⟨r14, q13, h⟩ := bd_o h
      refine r_callVi (rest := []) C B hl (c_X5_isFigure G s0 r14 q13) cs_X5_82 (cX_27 G s0) rfl rfl rfl (Nat.le_of_ble_eq_true rfl) ⟨rfl, rfl, Nat.le_of_ble_eq_true rfl, Nat.le_of_ble_eq_true rfl⟩ dX5_takeNumber_82 (fun H locs B => ?_)
      refine lv_if_eq (tgt := 122) hx hb dX5_takeNumber_85 (by decide) (fun q15 => ?_) (fun q15 => ?_)
      · have h := ip h q15
        obtain rfl := ret1 h
        exact hk H locs ls B (lv_sub hl [3] rfl)
      · have h := ig h q15
        refine lv_iload_n hx hb dX5_takeNumber_88 rfl (lv_at hl 3 rfl) ?_
        refine lv_bipush (v := (10 : Int32)) hx hb dX5_takeNumber_89 rfl ?_
        refine lv_imul hx hb dX5_takeNumber_91 ?_
        refine lv_aload_n hx hb dX5_takeNumber_92 rfl (lv_at hl 0 rfl) ?_
        refine r_get C B fo_X5_9 (cX_27 G s0) rfl dX5_takeNumber_93 ?_
        refine lv_aload_n hx hb dX5_takeNumber_96 rfl (lv_at hl 0 rfl) ?_
        refine r_get C B fo_X5_31 (cX_27 G s0) rfl dX5_takeNumber_97 ?_
        obtain ⟨q16, h⟩ := gd_o h
        refine r_cald C B (cX_28 G s0) (inb_vp q16) dX5_takeNumber_100 ?_
        refine lv_iadd hx hb dX5_takeNumber_101 ?_
        refine lv_bipush (v := (48 : Int32)) hx hb dX5_takeNumber_102 rfl ?_
        refine lv_isub hx hb dX5_takeNumber_104 ?_
        obtain ⟨v2_17, q18, h⟩ := nm_o h
        refine r_nm q18 ?_
        refine lv_istore_n (lv' := [(2, .int v2_17), (0, .ref (gad G 27)), (1, .int v1), (3, .int v3)]) hx hb dX5_takeNumber_105 rfl hl (by decide) rfl (fun ls hl => ?_)
        refine lv_aload_n hx hb dX5_takeNumber_106 rfl (lv_at hl 1 rfl) ?_
        refine lv_dup hx hb dX5_takeNumber_107 rfl ?_
        refine r_get C B fo_X5_31 (cX_27 G s0) rfl dX5_takeNumber_108 ?_
        refine lv_iconst (v := (1 : Int32)) hx hb dX5_takeNumber_111 rfl ?_
        refine lv_iadd hx hb dX5_takeNumber_112 ?_
        obtain ⟨s19, q20, h⟩ := nm_o h
        refine r_put C B fp_X5_31 (cX_27 G s0) (Nat.le_of_ble_eq_true rfl) rfl rfl ((uXs_16 G s0 _).trans (congrArg (wX G) q20.symm)) dX5_takeNumber_113 (fun H locs B => ?_)
        obtain ⟨v3_21, q22, h⟩ := nm_o h
        refine lv_iinc (v := v3_21) (lv' := [(3, .int v3_21), (2, .int v2_17), (0, .ref (gad G 27)), (1, .int v1)]) hx hb dX5_takeNumber_116 hl (k := 3) rfl q22.symm (by decide) rfl (fun ls hl => ?_)
        refine lv_goto (tgt := 76) hx hb dX5_takeNumber_119 (by decide) ?_
        exact ih v3_21 v2_17 s19 e1 h hk H locs ls B (lv_sub hl [2, 3, 0, 1] rfl)
set_option maxRecDepth 100000 in
set_option maxHeartbeats 4000000 in
theorem c_X5_takeNumber (G : GT) (n : Nat) (s0 : ST) (v1 : Int32) (r : Int32) (s' : ST) (h : X5_takeNumber n s0 v1 = some (r, s')) : Con G yX5_takeNumber cX5_takeNumber 4 (some .int) rm_X5_takeNumber [.ref (gad G 27), .int v1] (wX G s0) (some (.int r)) (wX G s') := by
  unfold X5_takeNumber at h
  refine con_of (by decide +kernel) (Nat.le_of_ble_eq_true rfl) (fun {p e s m below meth c} C hr {H locs ls} B hl => ?_)
  have hx := C.1
  have hb := C.2.1
  have hl : lv_has ls 4 [(0, .ref (gad G 27)), (1, .int v1)] := hl
  refine lv_aload_n hx hb dX5_takeNumber_0 rfl (lv_at hl 0 rfl) ?_
  refine r_get C B fo_X5_34 (cX_27 G s0) rfl dX5_takeNumber_1 ?_
  refine lv_iconst (v := (-1 : Int32)) hx hb dX5_takeNumber_4 rfl ?_
  refine lv_icmp_eq (tgt := 10) hx hb dX5_takeNumber_5 (by decide) (fun q1 => ?_) (fun q1 => ?_)
  · have h := ip h q1
    refine lv_aload_n hx hb dX5_takeNumber_10 rfl (lv_at hl 0 rfl) ?_
    refine r_get C B fo_X5_31 (cX_27 G s0) rfl dX5_takeNumber_11 ?_
    refine lv_aload_n hx hb dX5_takeNumber_14 rfl (lv_at hl 0 rfl) ?_
    refine r_get C B fo_X5_15 (cX_27 G s0) rfl dX5_takeNumber_15 ?_
    refine lv_icmp_ge (tgt := 35) hx hb dX5_takeNumber_18 (by decide) (fun q2 => ?_) (fun q2 => ?_)
    · have h := ip h q2
      refine lv_aload_n hx hb dX5_takeNumber_35 rfl (lv_at hl 0 rfl) ?_
      refine lv_aload_n hx hb dX5_takeNumber_36 rfl (lv_at hl 0 rfl) ?_
      refine r_get C B fo_X5_31 (cX_27 G s0) rfl dX5_takeNumber_37 ?_
      obtain ⟨s3, q4, h⟩ := nm_o h
      refine r_put C B fp_X5_34 (cX_27 G s0) (Nat.le_of_ble_eq_true rfl) rfl rfl ((uXs_17 G s0 _).trans (congrArg (wX G) q4.symm)) dX5_takeNumber_40 (fun H locs B => ?_)
      refine lv_iconst (v := (0 : Int32)) hx hb dX5_takeNumber_43 rfl ?_
      obtain ⟨rfl, rfl⟩ := ret2 h
      exact r_iret C B hr rfl dX5_takeNumber_44
    · have h := ig h q2
      refine lv_aload_n hx hb dX5_takeNumber_21 rfl (lv_at hl 0 rfl) ?_
      refine r_get C B fo_X5_9 (cX_27 G s0) rfl dX5_takeNumber_22 ?_
      refine lv_aload_n hx hb dX5_takeNumber_25 rfl (lv_at hl 0 rfl) ?_
      refine r_get C B fo_X5_31 (cX_27 G s0) rfl dX5_takeNumber_26 ?_
      obtain ⟨q5, h⟩ := gd_o h
      refine r_cald C B (cX_28 G s0) (inb_vp q5) dX5_takeNumber_29 ?_
      refine lv_bipush (v := (32 : Int32)) hx hb dX5_takeNumber_30 rfl ?_
      refine lv_icmp_eq (tgt := 45) hx hb dX5_takeNumber_32 (by decide) (fun q6 => ?_) (fun q6 => ?_)
      · have h := ip h q6
        refine lv_aload_n hx hb dX5_takeNumber_45 rfl (lv_at hl 0 rfl) ?_
        refine lv_dup hx hb dX5_takeNumber_46 rfl ?_
        refine r_get C B fo_X5_31 (cX_27 G s0) rfl dX5_takeNumber_47 ?_
        refine lv_iconst (v := (1 : Int32)) hx hb dX5_takeNumber_50 rfl ?_
        refine lv_iadd hx hb dX5_takeNumber_51 ?_
        obtain ⟨s7, q8, h⟩ := nm_o h
        refine r_put C B fp_X5_31 (cX_27 G s0) (Nat.le_of_ble_eq_true rfl) rfl rfl ((uXs_16 G s0 _).trans (congrArg (wX G) q8.symm)) dX5_takeNumber_52 (fun H locs B => ?_)
        refine lv_aload_n hx hb dX5_takeNumber_55 rfl (lv_at hl 0 rfl) ?_
        obtain ⟨r10, q9, h⟩ := bd_o h
        refine r_callVi (rest := []) C B hl (c_X5_isFigure G s7 r10 q9) cs_X5_82 (cX_27 G s7) rfl rfl rfl (Nat.le_of_ble_eq_true rfl) ⟨rfl, rfl, Nat.le_of_ble_eq_true rfl, Nat.le_of_ble_eq_true rfl⟩ dX5_takeNumber_56 (fun H locs B => ?_)
        refine lv_if_ne (tgt := 72) hx hb dX5_takeNumber_59 (by decide) (fun q11 => ?_) (fun q11 => ?_)
        · have h := ig h q11
          refine lv_iconst (v := (0 : Int32)) hx hb dX5_takeNumber_72 rfl ?_
          refine lv_istore_n (lv' := [(2, .int (0 : Int32)), (0, .ref (gad G 27)), (1, .int v1)]) hx hb dX5_takeNumber_73 rfl hl (by decide) rfl (fun ls hl => ?_)
          refine lv_iconst (v := (0 : Int32)) hx hb dX5_takeNumber_74 rfl ?_
          refine lv_istore_n (lv' := [(3, .int (0 : Int32)), (2, .int (0 : Int32)), (0, .ref (gad G 27)), (1, .int v1)]) hx hb dX5_takeNumber_75 rfl hl (by decide) rfl (fun ls hl => ?_)
          obtain ⟨e23, q24, h⟩ := bd_o h
          refine l_X5_takeNumber_L1 C hr v1 n (0 : Int32) (0 : Int32) s7 e23 q24 ?_ H locs ls B (lv_sub hl [2, 3, 0, 1] rfl)
          intro H locs ls B hl
          refine lv_iload_n hx hb dX5_takeNumber_122 rfl (lv_at hl 0 rfl) ?_
          obtain ⟨rfl, rfl⟩ := ret2 h
          exact r_iret C B hr rfl dX5_takeNumber_123
        · have h := ip h q11
          refine lv_aload_n hx hb dX5_takeNumber_62 rfl (lv_at hl 0 rfl) ?_
          refine lv_aload_n hx hb dX5_takeNumber_63 rfl (lv_at hl 0 rfl) ?_
          refine r_get C B fo_X5_31 (cX_27 G s7) rfl dX5_takeNumber_64 ?_
          obtain ⟨s25, q26, h⟩ := nm_o h
          refine r_put C B fp_X5_34 (cX_27 G s7) (Nat.le_of_ble_eq_true rfl) rfl rfl ((uXs_17 G s7 _).trans (congrArg (wX G) q26.symm)) dX5_takeNumber_67 (fun H locs B => ?_)
          refine lv_iconst (v := (0 : Int32)) hx hb dX5_takeNumber_70 rfl ?_
          obtain ⟨rfl, rfl⟩ := ret2 h
          exact r_iret C B hr rfl dX5_takeNumber_71
      · have h := ig h q6
        refine lv_aload_n hx hb dX5_takeNumber_35 rfl (lv_at hl 0 rfl) ?_
        refine lv_aload_n hx hb dX5_takeNumber_36 rfl (lv_at hl 0 rfl) ?_
        refine r_get C B fo_X5_31 (cX_27 G s0) rfl dX5_takeNumber_37 ?_
        obtain ⟨s27, q28, h⟩ := nm_o h
        refine r_put C B fp_X5_34 (cX_27 G s0) (Nat.le_of_ble_eq_true rfl) rfl rfl ((uXs_17 G s0 _).trans (congrArg (wX G) q28.symm)) dX5_takeNumber_40 (fun H locs B => ?_)
        refine lv_iconst (v := (0 : Int32)) hx hb dX5_takeNumber_43 rfl ?_
        obtain ⟨rfl, rfl⟩ := ret2 h
        exact r_iret C B hr rfl dX5_takeNumber_44
  · have h := ig h q1
    refine lv_iconst (v := (0 : Int32)) hx hb dX5_takeNumber_8 rfl ?_
    obtain ⟨rfl, rfl⟩ := ret2 h
    exact r_iret C B hr rfl dX5_takeNumber_9
def rm_X5_takePosts : Room := { frames := 2, cells := 0, slots := 0, locals := 43 }
set_option maxRecDepth 100000 in
set_option maxHeartbeats 4000000 in
theorem l_X5_takePosts_L1 {G : GT} {p : Program} {e : Env} {s : State} {m : MethodId} {args : Array Value} {below : List Frame} {meth : Method} {c : Code} {Q : State → Prop} (C : CT G p s m meth c args cX5_takePosts 2 RX5) (hr : meth.sig.returnType = none) (n : Nat) : ∀ (k : Nat) (v1 : Int32) (s0 : ST) (e1 : (ST) ⊕ (ST)), X5_takePosts_L1 n k v1 s0 = some e1 → (∀ rv, e1 = Sum.inl rv → Q = QR G below args s none (wX G rv)) → (∀ ex, e1 = Sum.inr ex → Kn G p e rm_X5_takePosts s m args below meth c Q 2 66 [] (wX G ex)) → Kn G p e rm_X5_takePosts s m args below meth c Q 2 2 [(0, .ref (gad G 27)), (1, .int v1)] (wX G s0) := by
  have hx := C.1
  have hb := C.2.1
  intro k
  induction k with
  | zero =>
    intro v1 s0 e1 h
    exact nso h
  | succ k ih =>
    intro v1 s0 e1 h hret hk H locs ls B hl
    have h : X5_takePosts_L1_b n (X5_takePosts_L1 n k) v1 s0 = some e1 := h
    unfold X5_takePosts_L1_b at h
    refine lv_iload_n hx hb dX5_takePosts_2 rfl (lv_at hl 1 rfl) ?_
    refine lv_aload_n hx hb dX5_takePosts_3 rfl (lv_at hl 0 rfl) ?_
    refine r_get C B fo_X5_15 (cX_27 G s0) rfl dX5_takePosts_4 ?_
    refine lv_icmp_ge (tgt := 66) hx hb dX5_takePosts_7 (by decide) (fun q1 => ?_) (fun q1 => ?_)
    · have h := ip h q1
      obtain rfl := ret1 h
      exact hk _ rfl H locs ls B (lv_sub hl [] rfl)
    · have h := ig h q1
      refine lv_aload_n hx hb dX5_takePosts_10 rfl (lv_at hl 0 rfl) ?_
      refine r_get C B fo_X5_34 (cX_27 G s0) rfl dX5_takePosts_11 ?_
      refine lv_iconst (v := (-1 : Int32)) hx hb dX5_takePosts_14 rfl ?_
      refine lv_icmp_ne (tgt := 43) hx hb dX5_takePosts_15 (by decide) (fun q2 => ?_) (fun q2 => ?_)
      · have h := ig h q2
        obtain rfl := ret1 h
        rw [hret _ rfl]
        exact r_vret C B hr dX5_takePosts_43
      · have h := ip h q2
        refine lv_aload_n hx hb dX5_takePosts_18 rfl (lv_at hl 0 rfl) ?_
        refine r_get C B fo_X5_31 (cX_27 G s0) rfl dX5_takePosts_19 ?_
        refine lv_aload_n hx hb dX5_takePosts_22 rfl (lv_at hl 0 rfl) ?_
        refine r_get C B fo_X5_15 (cX_27 G s0) rfl dX5_takePosts_23 ?_
        refine lv_icmp_ge (tgt := 43) hx hb dX5_takePosts_26 (by decide) (fun q3 => ?_) (fun q3 => ?_)
        · have h := ip h q3
          obtain rfl := ret1 h
          rw [hret _ rfl]
          exact r_vret C B hr dX5_takePosts_43
        · have h := ig h q3
          refine lv_aload_n hx hb dX5_takePosts_29 rfl (lv_at hl 0 rfl) ?_
          refine r_get C B fo_X5_9 (cX_27 G s0) rfl dX5_takePosts_30 ?_
          refine lv_aload_n hx hb dX5_takePosts_33 rfl (lv_at hl 0 rfl) ?_
          refine r_get C B fo_X5_31 (cX_27 G s0) rfl dX5_takePosts_34 ?_
          obtain ⟨q4, h⟩ := gd_o h
          refine r_cald C B (cX_28 G s0) (inb_vp q4) dX5_takePosts_37 ?_
          refine lv_bipush (v := (32 : Int32)) hx hb dX5_takePosts_38 rfl ?_
          refine lv_icmp_eq (tgt := 44) hx hb dX5_takePosts_40 (by decide) (fun q5 => ?_) (fun q5 => ?_)
          · have h := ip h q5
            refine lv_aload_n hx hb dX5_takePosts_44 rfl (lv_at hl 0 rfl) ?_
            refine lv_dup hx hb dX5_takePosts_45 rfl ?_
            refine r_get C B fo_X5_28 (cX_27 G s0) rfl dX5_takePosts_46 ?_
            refine lv_iconst (v := (1 : Int32)) hx hb dX5_takePosts_49 rfl ?_
            refine lv_aload_n hx hb dX5_takePosts_50 rfl (lv_at hl 0 rfl) ?_
            refine lv_iconst (v := (1 : Int32)) hx hb dX5_takePosts_51 rfl ?_
            obtain ⟨r8, s7, q6, h⟩ := bd2_o h
            refine r_callVi (rest := [.int (1 : Int32), .int (s0.1 15), .ref (gad G 27)]) C B hl (c_X5_takeNumber G n s0 (1 : Int32) r8 s7 q6) cs_X5_54 (cX_27 G s0) rfl rfl rfl (Nat.le_of_ble_eq_true rfl) ⟨rfl, rfl, Nat.le_of_ble_eq_true rfl, Nat.le_of_ble_eq_true rfl⟩ dX5_takePosts_52 (fun H locs B => ?_)
            refine lv_ishl hx hb dX5_takePosts_55 ?_
            refine lv_ior hx hb dX5_takePosts_56 ?_
            obtain ⟨s9, q10, h⟩ := nm_o h
            refine r_put C B fp_X5_28 (cX_27 G s7) (Nat.le_of_ble_eq_true rfl) rfl rfl ((uXs_15 G s7 _).trans (congrArg (wX G) q10.symm)) dX5_takePosts_57 (fun H locs B => ?_)
            obtain ⟨v1_11, q12, h⟩ := nm_o h
            refine lv_iinc (v := v1_11) (lv' := [(1, .int v1_11), (0, .ref (gad G 27))]) hx hb dX5_takePosts_60 hl (k := 1) rfl q12.symm (by decide) rfl (fun ls hl => ?_)
            refine lv_goto (tgt := 2) hx hb dX5_takePosts_63 (by decide) ?_
            exact ih v1_11 s9 e1 h hret hk H locs ls B (lv_sub hl [1, 0] rfl)
          · have h := ig h q5
            obtain rfl := ret1 h
            rw [hret _ rfl]
            exact r_vret C B hr dX5_takePosts_43
set_option maxRecDepth 100000 in
set_option maxHeartbeats 4000000 in
theorem c_X5_takePosts (G : GT) (n : Nat) (s0 : ST)  (s' : ST) (h : X5_takePosts n s0  = some s') : Con G yX5_takePosts cX5_takePosts 2 none rm_X5_takePosts [.ref (gad G 27)] (wX G s0) none (wX G s') := by
  unfold X5_takePosts at h
  refine con_of (by decide +kernel) (Nat.le_of_ble_eq_true rfl) (fun {p e s m below meth c} C hr {H locs ls} B hl => ?_)
  have hx := C.1
  have hb := C.2.1
  have hl : lv_has ls 2 [(0, .ref (gad G 27))] := hl
  refine lv_iconst (v := (0 : Int32)) hx hb dX5_takePosts_0 rfl ?_
  refine lv_istore_n (lv' := [(1, .int (0 : Int32)), (0, .ref (gad G 27))]) hx hb dX5_takePosts_1 rfl hl (by decide) rfl (fun ls hl => ?_)
  obtain ⟨e13, q14, h⟩ := bd_o h
  refine l_X5_takePosts_L1 C hr n n (0 : Int32) s0 e13 q14 (fun rv q => by have h := sm_l h q; cases h; rfl) (fun e15 q16 => ?_) H locs ls B (lv_sub hl [1, 0] rfl)
  have h := sm_r h q16
  intro H locs ls B hl
  obtain rfl := ret1 h
  exact r_vret C B hr dX5_takePosts_66
def rm_X5_takeStatement : Room := { frames := 6, cells := 0, slots := 0, locals := 129 }
set_option maxRecDepth 100000 in
set_option maxHeartbeats 4000000 in
theorem l_X5_takeStatement_L1 {G : GT} {p : Program} {e : Env} {s : State} {m : MethodId} {args : Array Value} {below : List Frame} {meth : Method} {c : Code} {Q : State → Prop} (C : CT G p s m meth c args cX5_takeStatement 2 RX5) (hr : meth.sig.returnType = none) (v1 : Int32) : ∀ (k : Nat) (s0 : ST) (e1 : ST), X5_takeStatement_L1  k s0 = some e1 → Kn G p e rm_X5_takeStatement s m args below meth c Q 2 57 [(0, .ref (gad G 27)), (1, .int v1)] (wX G e1) → Kn G p e rm_X5_takeStatement s m args below meth c Q 2 5 [(0, .ref (gad G 27)), (1, .int v1)] (wX G s0) := by
  have hx := C.1
  have hb := C.2.1
  intro k
  induction k with
  | zero =>
    intro s0 e1 h
    exact nso h
  | succ k ih =>
    intro s0 e1 h hk H locs ls B hl
    have h : X5_takeStatement_L1_b  (X5_takeStatement_L1  k) s0 = some e1 := h
    unfold X5_takeStatement_L1_b at h
    refine lv_aload_n hx hb dX5_takeStatement_5 rfl (lv_at hl 0 rfl) ?_
    refine r_get C B fo_X5_31 (cX_27 G s0) rfl dX5_takeStatement_6 ?_
    refine lv_aload_n hx hb dX5_takeStatement_9 rfl (lv_at hl 0 rfl) ?_
    refine r_get C B fo_X5_15 (cX_27 G s0) rfl dX5_takeStatement_10 ?_
    refine lv_icmp_ge (tgt := 57) hx hb dX5_takeStatement_13 (by decide) (fun q3 => ?_) (fun q3 => ?_)
    · have h := ip h q3
      obtain rfl := ret1 h
      exact hk H locs ls B (lv_sub hl [0, 1] rfl)
    · have h := ig h q3
      refine lv_aload_n hx hb dX5_takeStatement_16 rfl (lv_at hl 0 rfl) ?_
      refine r_get C B fo_X5_9 (cX_27 G s0) rfl dX5_takeStatement_17 ?_
      refine lv_aload_n hx hb dX5_takeStatement_20 rfl (lv_at hl 0 rfl) ?_
      refine r_get C B fo_X5_31 (cX_27 G s0) rfl dX5_takeStatement_21 ?_
      obtain ⟨q4, h⟩ := gd_o h
      refine r_cald C B (cX_28 G s0) (inb_vp q4) dX5_takeStatement_24 ?_
      refine lv_bipush (v := (97 : Int32)) hx hb dX5_takeStatement_25 rfl ?_
      refine lv_icmp_lt (tgt := 57) hx hb dX5_takeStatement_27 (by decide) (fun q5 => ?_) (fun q5 => ?_)
      · have h := ip h q5
        obtain rfl := ret1 h
        exact hk H locs ls B (lv_sub hl [0, 1] rfl)
      · have h := ig h q5
        refine lv_aload_n hx hb dX5_takeStatement_30 rfl (lv_at hl 0 rfl) ?_
        refine r_get C B fo_X5_9 (cX_27 G s0) rfl dX5_takeStatement_31 ?_
        refine lv_aload_n hx hb dX5_takeStatement_34 rfl (lv_at hl 0 rfl) ?_
        refine r_get C B fo_X5_31 (cX_27 G s0) rfl dX5_takeStatement_35 ?_
        obtain ⟨q6, h⟩ := gd_o h
        refine r_cald C B (cX_28 G s0) (inb_vp q6) dX5_takeStatement_38 ?_
        refine lv_bipush (v := (122 : Int32)) hx hb dX5_takeStatement_39 rfl ?_
        refine lv_icmp_gt (tgt := 57) hx hb dX5_takeStatement_41 (by decide) (fun q7 => ?_) (fun q7 => ?_)
        · have h := ip h q7
          obtain rfl := ret1 h
          exact hk H locs ls B (lv_sub hl [0, 1] rfl)
        · have h := ig h q7
          refine lv_aload_n hx hb dX5_takeStatement_44 rfl (lv_at hl 0 rfl) ?_
          refine lv_dup hx hb dX5_takeStatement_45 rfl ?_
          refine r_get C B fo_X5_31 (cX_27 G s0) rfl dX5_takeStatement_46 ?_
          refine lv_iconst (v := (1 : Int32)) hx hb dX5_takeStatement_49 rfl ?_
          refine lv_iadd hx hb dX5_takeStatement_50 ?_
          obtain ⟨s8, q9, h⟩ := nm_o h
          refine r_put C B fp_X5_31 (cX_27 G s0) (Nat.le_of_ble_eq_true rfl) rfl rfl ((uXs_16 G s0 _).trans (congrArg (wX G) q9.symm)) dX5_takeStatement_51 (fun H locs B => ?_)
          refine lv_goto (tgt := 5) hx hb dX5_takeStatement_54 (by decide) ?_
          exact ih s8 e1 h hk H locs ls B (lv_sub hl [0, 1] rfl)
set_option maxRecDepth 100000 in
set_option maxHeartbeats 4000000 in
theorem c_X5_takeStatement (G : GT) (n : Nat) (s0 : ST)  (s' : ST) (h : X5_takeStatement n s0  = some s') : Con G yX5_takeStatement cX5_takeStatement 2 none rm_X5_takeStatement [.ref (gad G 27)] (wX G s0) none (wX G s') := by
  unfold X5_takeStatement at h
  refine con_of (by decide +kernel) (Nat.le_of_ble_eq_true rfl) (fun {p e s m below meth c} C hr {H locs ls} B hl => ?_)
  have hx := C.1
  have hb := C.2.1
  have hl : lv_has ls 2 [(0, .ref (gad G 27))] := hl
  refine lv_aload_n hx hb dX5_takeStatement_0 rfl (lv_at hl 0 rfl) ?_
  refine r_get C B fo_X5_31 (cX_27 G s0) rfl dX5_takeStatement_1 ?_
  obtain ⟨v1_1, q2, h⟩ := nm_o h
  refine r_nm q2 ?_
  refine lv_istore_n (lv' := [(1, .int v1_1), (0, .ref (gad G 27))]) hx hb dX5_takeStatement_4 rfl hl (by decide) rfl (fun ls hl => ?_)
  obtain ⟨e10, q11, h⟩ := bd_o h
  refine l_X5_takeStatement_L1 C hr v1_1 n s0 e10 q11 ?_ H locs ls B (lv_sub hl [1, 0] rfl)
  intro H locs ls B hl
  refine lv_aload_n hx hb dX5_takeStatement_57 rfl (lv_at hl 0 rfl) ?_
  refine lv_aload_n hx hb dX5_takeStatement_58 rfl (lv_at hl 0 rfl) ?_
  refine lv_iload_n hx hb dX5_takeStatement_59 rfl (lv_at hl 1 rfl) ?_
  obtain ⟨r13, q12, h⟩ := bd_o h
  refine r_callVi (rest := [.ref (gad G 27)]) C B hl (c_X5_wordFrom G n e10 v1_1 r13 q12) cs_X5_47 (cX_27 G e10) rfl rfl rfl (Nat.le_of_ble_eq_true rfl) ⟨rfl, rfl, Nat.le_of_ble_eq_true rfl, Nat.le_of_ble_eq_true rfl⟩ dX5_takeStatement_60 (fun H locs B => ?_)
  obtain ⟨s14, q15, h⟩ := nm_o h
  refine r_put C B fp_X5_19 (cX_27 G e10) (Nat.le_of_ble_eq_true rfl) rfl rfl ((uXs_12 G e10 _).trans (congrArg (wX G) q15.symm)) dX5_takeStatement_63 (fun H locs B => ?_)
  refine lv_aload_n hx hb dX5_takeStatement_66 rfl (lv_at hl 0 rfl) ?_
  refine lv_iconst (v := (0 : Int32)) hx hb dX5_takeStatement_67 rfl ?_
  obtain ⟨s16, q17, h⟩ := nm_o h
  refine r_put C B fp_X5_22 (cX_27 G s14) (Nat.le_of_ble_eq_true rfl) rfl rfl ((uXs_13 G s14 _).trans (congrArg (wX G) q17.symm)) dX5_takeStatement_68 (fun H locs B => ?_)
  refine lv_aload_n hx hb dX5_takeStatement_71 rfl (lv_at hl 0 rfl) ?_
  refine lv_iconst (v := (0 : Int32)) hx hb dX5_takeStatement_72 rfl ?_
  obtain ⟨s18, q19, h⟩ := nm_o h
  refine r_put C B fp_X5_25 (cX_27 G s16) (Nat.le_of_ble_eq_true rfl) rfl rfl ((uXs_14 G s16 _).trans (congrArg (wX G) q19.symm)) dX5_takeStatement_73 (fun H locs B => ?_)
  refine lv_aload_n hx hb dX5_takeStatement_76 rfl (lv_at hl 0 rfl) ?_
  refine lv_iconst (v := (0 : Int32)) hx hb dX5_takeStatement_77 rfl ?_
  obtain ⟨s20, q21, h⟩ := nm_o h
  refine r_put C B fp_X5_28 (cX_27 G s18) (Nat.le_of_ble_eq_true rfl) rfl rfl ((uXs_15 G s18 _).trans (congrArg (wX G) q21.symm)) dX5_takeStatement_78 (fun H locs B => ?_)
  refine lv_aload_n hx hb dX5_takeStatement_81 rfl (lv_at hl 0 rfl) ?_
  refine r_get C B fo_X5_19 (cX_27 G s20) rfl dX5_takeStatement_82 ?_
  by_cases q22 : (s20.1 12) = (0 : Int32)
  · have h := ip h q22
    refine lv_lookup (off := 27) (tgt := 112) hx hb dX5_takeStatement_85 (by decide) (by rw [q22]; decide) (by decide) ?_
    refine lv_aload_n hx hb dX5_takeStatement_112 rfl (lv_at hl 0 rfl) ?_
    refine lv_iload_n hx hb dX5_takeStatement_113 rfl (lv_at hl 1 rfl) ?_
    obtain ⟨s23, q24, h⟩ := nm_o h
    refine r_put C B fp_X5_34 (cX_27 G s20) (Nat.le_of_ble_eq_true rfl) rfl rfl ((uXs_17 G s20 _).trans (congrArg (wX G) q24.symm)) dX5_takeStatement_114 (fun H locs B => ?_)
    refine lv_goto (tgt := 179) hx hb dX5_takeStatement_117 (by decide) ?_
    obtain rfl := ret1 h
    exact r_vret C B hr dX5_takeStatement_179
  · have h := ig h q22
    by_cases q25 : (s20.1 12) = (5 : Int32)
    · have h := ip h q25
      refine lv_lookup (off := 35) (tgt := 120) hx hb dX5_takeStatement_85 (by decide) (by rw [q25]; decide) (by decide) ?_
      refine lv_aload_n hx hb dX5_takeStatement_120 rfl (lv_at hl 0 rfl) ?_
      obtain ⟨s27, q26, h⟩ := bd_o h
      refine r_callVv (rest := []) C B hl (c_X5_takePosts G n s20 s27 q26) cs_X5_51 (cX_27 G s20) rfl rfl rfl (Nat.le_of_ble_eq_true rfl) ⟨rfl, rfl, Nat.le_of_ble_eq_true rfl, Nat.le_of_ble_eq_true rfl⟩ dX5_takeStatement_121 (fun H locs B => ?_)
      refine lv_goto (tgt := 179) hx hb dX5_takeStatement_124 (by decide) ?_
      obtain rfl := ret1 h
      exact r_vret C B hr dX5_takeStatement_179
    · have h := ig h q25
      refine lv_lookup (off := 42) (tgt := 127) hx hb dX5_takeStatement_85 (by decide) ((lv_osw q22 (by decide)).trans ((lv_osw q25 (by decide)).trans rfl)) (by decide) ?_
      refine lv_aload_n hx hb dX5_takeStatement_127 rfl (lv_at hl 0 rfl) ?_
      refine lv_aload_n hx hb dX5_takeStatement_128 rfl (lv_at hl 0 rfl) ?_
      refine lv_iconst (v := (1 : Int32)) hx hb dX5_takeStatement_129 rfl ?_
      obtain ⟨r30, s29, q28, h⟩ := bd2_o h
      refine r_callVi (rest := [.ref (gad G 27)]) C B hl (c_X5_takeNumber G n s20 (1 : Int32) r30 s29 q28) cs_X5_54 (cX_27 G s20) rfl rfl rfl (Nat.le_of_ble_eq_true rfl) ⟨rfl, rfl, Nat.le_of_ble_eq_true rfl, Nat.le_of_ble_eq_true rfl⟩ dX5_takeStatement_130 (fun H locs B => ?_)
      obtain ⟨s31, q32, h⟩ := nm_o h
      refine r_put C B fp_X5_22 (cX_27 G s29) (Nat.le_of_ble_eq_true rfl) rfl rfl ((uXs_13 G s29 _).trans (congrArg (wX G) q32.symm)) dX5_takeStatement_133 (fun H locs B => ?_)
      refine lv_aload_n hx hb dX5_takeStatement_136 rfl (lv_at hl 0 rfl) ?_
      refine r_get C B fo_X5_19 (cX_27 G s31) rfl dX5_takeStatement_137 ?_
      refine lv_iconst (v := (2 : Int32)) hx hb dX5_takeStatement_140 rfl ?_
      refine lv_icmp_eq (tgt := 152) hx hb dX5_takeStatement_141 (by decide) (fun q33 => ?_) (fun q33 => ?_)
      · have h := ip h q33
        refine lv_aload_n hx hb dX5_takeStatement_152 rfl (lv_at hl 0 rfl) ?_
        refine lv_aload_n hx hb dX5_takeStatement_153 rfl (lv_at hl 0 rfl) ?_
        refine lv_iconst (v := (1 : Int32)) hx hb dX5_takeStatement_154 rfl ?_
        obtain ⟨r36, s35, q34, h⟩ := bd2_o h
        refine r_callVi (rest := [.ref (gad G 27)]) C B hl (c_X5_takeNumber G n s31 (1 : Int32) r36 s35 q34) cs_X5_54 (cX_27 G s31) rfl rfl rfl (Nat.le_of_ble_eq_true rfl) ⟨rfl, rfl, Nat.le_of_ble_eq_true rfl, Nat.le_of_ble_eq_true rfl⟩ dX5_takeStatement_155 (fun H locs B => ?_)
        obtain ⟨s37, q38, h⟩ := nm_o h
        refine r_put C B fp_X5_25 (cX_27 G s35) (Nat.le_of_ble_eq_true rfl) rfl rfl ((uXs_14 G s35 _).trans (congrArg (wX G) q38.symm)) dX5_takeStatement_158 (fun H locs B => ?_)
        refine lv_aload_n hx hb dX5_takeStatement_161 rfl (lv_at hl 0 rfl) ?_
        refine r_get C B fo_X5_19 (cX_27 G s37) rfl dX5_takeStatement_162 ?_
        refine lv_bipush (v := (6 : Int32)) hx hb dX5_takeStatement_165 rfl ?_
        refine lv_icmp_ne (tgt := 179) hx hb dX5_takeStatement_167 (by decide) (fun q39 => ?_) (fun q39 => ?_)
        · have h := ig h q39
          obtain rfl := ret1 h
          exact r_vret C B hr dX5_takeStatement_179
        · have h := ip h q39
          refine lv_aload_n hx hb dX5_takeStatement_170 rfl (lv_at hl 0 rfl) ?_
          refine lv_aload_n hx hb dX5_takeStatement_171 rfl (lv_at hl 0 rfl) ?_
          refine lv_iconst (v := (2 : Int32)) hx hb dX5_takeStatement_172 rfl ?_
          obtain ⟨r42, s41, q40, h⟩ := bd2_o h
          refine r_callVi (rest := [.ref (gad G 27)]) C B hl (c_X5_takeNumber G n s37 (2 : Int32) r42 s41 q40) cs_X5_54 (cX_27 G s37) rfl rfl rfl (Nat.le_of_ble_eq_true rfl) ⟨rfl, rfl, Nat.le_of_ble_eq_true rfl, Nat.le_of_ble_eq_true rfl⟩ dX5_takeStatement_173 (fun H locs B => ?_)
          obtain ⟨s43, q44, h⟩ := nm_o h
          refine r_put C B fp_X5_25 (cX_27 G s41) (Nat.le_of_ble_eq_true rfl) rfl rfl ((uXs_14 G s41 _).trans (congrArg (wX G) q44.symm)) dX5_takeStatement_176 (fun H locs B => ?_)
          obtain rfl := ret1 h
          exact r_vret C B hr dX5_takeStatement_179
      · have h := ig h q33
        refine lv_aload_n hx hb dX5_takeStatement_144 rfl (lv_at hl 0 rfl) ?_
        refine r_get C B fo_X5_19 (cX_27 G s31) rfl dX5_takeStatement_145 ?_
        refine lv_iconst (v := (3 : Int32)) hx hb dX5_takeStatement_148 rfl ?_
        refine lv_icmp_ne (tgt := 161) hx hb dX5_takeStatement_149 (by decide) (fun q45 => ?_) (fun q45 => ?_)
        · have h := ig h q45
          refine lv_aload_n hx hb dX5_takeStatement_161 rfl (lv_at hl 0 rfl) ?_
          refine r_get C B fo_X5_19 (cX_27 G s31) rfl dX5_takeStatement_162 ?_
          refine lv_bipush (v := (6 : Int32)) hx hb dX5_takeStatement_165 rfl ?_
          refine lv_icmp_ne (tgt := 179) hx hb dX5_takeStatement_167 (by decide) (fun q46 => ?_) (fun q46 => ?_)
          · have h := ig h q46
            obtain rfl := ret1 h
            exact r_vret C B hr dX5_takeStatement_179
          · have h := ip h q46
            refine lv_aload_n hx hb dX5_takeStatement_170 rfl (lv_at hl 0 rfl) ?_
            refine lv_aload_n hx hb dX5_takeStatement_171 rfl (lv_at hl 0 rfl) ?_
            refine lv_iconst (v := (2 : Int32)) hx hb dX5_takeStatement_172 rfl ?_
            obtain ⟨r49, s48, q47, h⟩ := bd2_o h
            refine r_callVi (rest := [.ref (gad G 27)]) C B hl (c_X5_takeNumber G n s31 (2 : Int32) r49 s48 q47) cs_X5_54 (cX_27 G s31) rfl rfl rfl (Nat.le_of_ble_eq_true rfl) ⟨rfl, rfl, Nat.le_of_ble_eq_true rfl, Nat.le_of_ble_eq_true rfl⟩ dX5_takeStatement_173 (fun H locs B => ?_)
            obtain ⟨s50, q51, h⟩ := nm_o h
            refine r_put C B fp_X5_25 (cX_27 G s48) (Nat.le_of_ble_eq_true rfl) rfl rfl ((uXs_14 G s48 _).trans (congrArg (wX G) q51.symm)) dX5_takeStatement_176 (fun H locs B => ?_)
            obtain rfl := ret1 h
            exact r_vret C B hr dX5_takeStatement_179
        · have h := ip h q45
          refine lv_aload_n hx hb dX5_takeStatement_152 rfl (lv_at hl 0 rfl) ?_
          refine lv_aload_n hx hb dX5_takeStatement_153 rfl (lv_at hl 0 rfl) ?_
          refine lv_iconst (v := (1 : Int32)) hx hb dX5_takeStatement_154 rfl ?_
          obtain ⟨r54, s53, q52, h⟩ := bd2_o h
          refine r_callVi (rest := [.ref (gad G 27)]) C B hl (c_X5_takeNumber G n s31 (1 : Int32) r54 s53 q52) cs_X5_54 (cX_27 G s31) rfl rfl rfl (Nat.le_of_ble_eq_true rfl) ⟨rfl, rfl, Nat.le_of_ble_eq_true rfl, Nat.le_of_ble_eq_true rfl⟩ dX5_takeStatement_155 (fun H locs B => ?_)
          obtain ⟨s55, q56, h⟩ := nm_o h
          refine r_put C B fp_X5_25 (cX_27 G s53) (Nat.le_of_ble_eq_true rfl) rfl rfl ((uXs_14 G s53 _).trans (congrArg (wX G) q56.symm)) dX5_takeStatement_158 (fun H locs B => ?_)
          refine lv_aload_n hx hb dX5_takeStatement_161 rfl (lv_at hl 0 rfl) ?_
          refine r_get C B fo_X5_19 (cX_27 G s55) rfl dX5_takeStatement_162 ?_
          refine lv_bipush (v := (6 : Int32)) hx hb dX5_takeStatement_165 rfl ?_
          refine lv_icmp_ne (tgt := 179) hx hb dX5_takeStatement_167 (by decide) (fun q57 => ?_) (fun q57 => ?_)
          · have h := ig h q57
            obtain rfl := ret1 h
            exact r_vret C B hr dX5_takeStatement_179
          · have h := ip h q57
            refine lv_aload_n hx hb dX5_takeStatement_170 rfl (lv_at hl 0 rfl) ?_
            refine lv_aload_n hx hb dX5_takeStatement_171 rfl (lv_at hl 0 rfl) ?_
            refine lv_iconst (v := (2 : Int32)) hx hb dX5_takeStatement_172 rfl ?_
            obtain ⟨r60, s59, q58, h⟩ := bd2_o h
            refine r_callVi (rest := [.ref (gad G 27)]) C B hl (c_X5_takeNumber G n s55 (2 : Int32) r60 s59 q58) cs_X5_54 (cX_27 G s55) rfl rfl rfl (Nat.le_of_ble_eq_true rfl) ⟨rfl, rfl, Nat.le_of_ble_eq_true rfl, Nat.le_of_ble_eq_true rfl⟩ dX5_takeStatement_173 (fun H locs B => ?_)
            obtain ⟨s61, q62, h⟩ := nm_o h
            refine r_put C B fp_X5_25 (cX_27 G s59) (Nat.le_of_ble_eq_true rfl) rfl rfl ((uXs_14 G s59 _).trans (congrArg (wX G) q62.symm)) dX5_takeStatement_176 (fun H locs B => ?_)
            obtain rfl := ret1 h
            exact r_vret C B hr dX5_takeStatement_179
def rm_X5_takeSemicolon : Room := { frames := 0, cells := 0, slots := 0, locals := 0 }
set_option maxRecDepth 100000 in
set_option maxHeartbeats 4000000 in
theorem c_X5_takeSemicolon (G : GT) (s0 : ST)  (r : Int32) (s' : ST) (h : X5_takeSemicolon s0  = some (r, s')) : Con G yX5_takeSemicolon cX5_takeSemicolon 1 (some .boolean) rm_X5_takeSemicolon [.ref (gad G 27)] (wX G s0) (some (.int r)) (wX G s') := by
  unfold X5_takeSemicolon at h
  refine con_of (by decide +kernel) (Nat.le_of_ble_eq_true rfl) (fun {p e s m below meth c} C hr {H locs ls} B hl => ?_)
  have hx := C.1
  have hb := C.2.1
  have hl : lv_has ls 1 [(0, .ref (gad G 27))] := hl
  refine lv_aload_n hx hb dX5_takeSemicolon_0 rfl (lv_at hl 0 rfl) ?_
  refine r_get C B fo_X5_31 (cX_27 G s0) rfl dX5_takeSemicolon_1 ?_
  refine lv_aload_n hx hb dX5_takeSemicolon_4 rfl (lv_at hl 0 rfl) ?_
  refine r_get C B fo_X5_15 (cX_27 G s0) rfl dX5_takeSemicolon_5 ?_
  refine lv_icmp_lt (tgt := 13) hx hb dX5_takeSemicolon_8 (by decide) (fun q1 => ?_) (fun q1 => ?_)
  · have h := ip h q1
    refine lv_aload_n hx hb dX5_takeSemicolon_13 rfl (lv_at hl 0 rfl) ?_
    refine r_get C B fo_X5_9 (cX_27 G s0) rfl dX5_takeSemicolon_14 ?_
    refine lv_aload_n hx hb dX5_takeSemicolon_17 rfl (lv_at hl 0 rfl) ?_
    refine r_get C B fo_X5_31 (cX_27 G s0) rfl dX5_takeSemicolon_18 ?_
    obtain ⟨q2, h⟩ := gd_o h
    refine r_cald C B (cX_28 G s0) (inb_vp q2) dX5_takeSemicolon_21 ?_
    refine lv_bipush (v := (59 : Int32)) hx hb dX5_takeSemicolon_22 rfl ?_
    refine lv_icmp_eq (tgt := 37) hx hb dX5_takeSemicolon_24 (by decide) (fun q3 => ?_) (fun q3 => ?_)
    · have h := ip h q3
      refine lv_aload_n hx hb dX5_takeSemicolon_37 rfl (lv_at hl 0 rfl) ?_
      refine lv_dup hx hb dX5_takeSemicolon_38 rfl ?_
      refine r_get C B fo_X5_31 (cX_27 G s0) rfl dX5_takeSemicolon_39 ?_
      refine lv_iconst (v := (1 : Int32)) hx hb dX5_takeSemicolon_42 rfl ?_
      refine lv_iadd hx hb dX5_takeSemicolon_43 ?_
      obtain ⟨s4, q5, h⟩ := nm_o h
      refine r_put C B fp_X5_31 (cX_27 G s0) (Nat.le_of_ble_eq_true rfl) rfl rfl ((uXs_16 G s0 _).trans (congrArg (wX G) q5.symm)) dX5_takeSemicolon_44 (fun H locs B => ?_)
      refine lv_iconst (v := (1 : Int32)) hx hb dX5_takeSemicolon_47 rfl ?_
      obtain ⟨rfl, rfl⟩ := ret2 h
      exact r_iret C B hr nar_1 dX5_takeSemicolon_48
    · have h := ig h q3
      refine lv_aload_n hx hb dX5_takeSemicolon_27 rfl (lv_at hl 0 rfl) ?_
      refine lv_aload_n hx hb dX5_takeSemicolon_28 rfl (lv_at hl 0 rfl) ?_
      refine r_get C B fo_X5_31 (cX_27 G s0) rfl dX5_takeSemicolon_29 ?_
      obtain ⟨s6, q7, h⟩ := nm_o h
      refine r_put C B fp_X5_34 (cX_27 G s0) (Nat.le_of_ble_eq_true rfl) rfl rfl ((uXs_17 G s0 _).trans (congrArg (wX G) q7.symm)) dX5_takeSemicolon_32 (fun H locs B => ?_)
      refine lv_iconst (v := (0 : Int32)) hx hb dX5_takeSemicolon_35 rfl ?_
      obtain ⟨rfl, rfl⟩ := ret2 h
      exact r_iret C B hr nar_0 dX5_takeSemicolon_36
  · have h := ig h q1
    refine lv_iconst (v := (0 : Int32)) hx hb dX5_takeSemicolon_11 rfl ?_
    obtain ⟨rfl, rfl⟩ := ret2 h
    exact r_iret C B hr nar_0 dX5_takeSemicolon_12
def rm_X5_findFault : Room := { frames := 7, cells := 0, slots := 0, locals := 150 }
set_option maxRecDepth 100000 in
set_option maxHeartbeats 4000000 in
theorem l_X5_findFault_L1 {G : GT} {p : Program} {e : Env} {s : State} {m : MethodId} {args : Array Value} {below : List Frame} {meth : Method} {c : Code} {Q : State → Prop} (C : CT G p s m meth c args cX5_findFault 3 RX5) (hr : meth.sig.returnType = (some .int)) (n : Nat) : ∀ (k : Nat) (v2 : Int32) (v1 : Int32) (s0 : ST) (e1 : ST), X5_findFault_L1 n k v2 v1 s0 = some e1 → Kn G p e rm_X5_findFault s m args below meth c Q 3 51 [(0, .ref (gad G 27))] (wX G e1) → Kn G p e rm_X5_findFault s m args below meth c Q 3 8 [(0, .ref (gad G 27)), (2, .int v2), (1, .int v1)] (wX G s0) := by
  have hx := C.1
  have hb := C.2.1
  intro k
  induction k with
  | zero =>
    intro v2 v1 s0 e1 h
    exact nso h
  | succ k ih =>
    intro v2 v1 s0 e1 h hk H locs ls B hl
    have h : X5_findFault_L1_b n (X5_findFault_L1 n k) v2 v1 s0 = some e1 := h
    unfold X5_findFault_L1_b at h
    refine lv_iload_n hx hb dX5_findFault_8 rfl (lv_at hl 2 rfl) ?_
    refine lv_if_eq (tgt := 51) hx hb dX5_findFault_9 (by decide) (fun q3 => ?_) (fun q3 => ?_)
    · have h := ip h q3
      obtain rfl := ret1 h
      exact hk H locs ls B (lv_sub hl [0] rfl)
    · have h := ig h q3
      refine lv_iload_n hx hb dX5_findFault_12 rfl (lv_at hl 1 rfl) ?_
      refine lv_aload_n hx hb dX5_findFault_13 rfl (lv_at hl 0 rfl) ?_
      refine r_get C B fo_X5_15 (cX_27 G s0) rfl dX5_findFault_14 ?_
      refine lv_icmp_gt (tgt := 51) hx hb dX5_findFault_17 (by decide) (fun q4 => ?_) (fun q4 => ?_)
      · have h := ip h q4
        obtain rfl := ret1 h
        exact hk H locs ls B (lv_sub hl [0] rfl)
      · have h := ig h q4
        refine lv_aload_n hx hb dX5_findFault_20 rfl (lv_at hl 0 rfl) ?_
        obtain ⟨s6, q5, h⟩ := bd_o h
        refine r_callVv (rest := []) C B hl (c_X5_takeStatement G n s0 s6 q5) cs_X5_40 (cX_27 G s0) rfl rfl rfl (Nat.le_of_ble_eq_true rfl) ⟨rfl, rfl, Nat.le_of_ble_eq_true rfl, Nat.le_of_ble_eq_true rfl⟩ dX5_findFault_21 (fun H locs B => ?_)
        refine lv_aload_n hx hb dX5_findFault_24 rfl (lv_at hl 0 rfl) ?_
        refine r_get C B fo_X5_34 (cX_27 G s6) rfl dX5_findFault_25 ?_
        refine lv_iconst (v := (-1 : Int32)) hx hb dX5_findFault_28 rfl ?_
        refine lv_icmp_ne (tgt := 43) hx hb dX5_findFault_29 (by decide) (fun q7 => ?_) (fun q7 => ?_)
        · have h := ig h q7
          refine lv_iconst (v := (0 : Int32)) hx hb dX5_findFault_43 rfl ?_
          refine lv_istore_n (lv' := [(1, .int (0 : Int32)), (0, .ref (gad G 27)), (2, .int v2)]) hx hb dX5_findFault_44 rfl hl (by decide) rfl (fun ls hl => ?_)
          obtain ⟨v2_8, q9, h⟩ := nm_o h
          refine lv_iinc (v := v2_8) (lv' := [(2, .int v2_8), (1, .int (0 : Int32)), (0, .ref (gad G 27))]) hx hb dX5_findFault_45 hl (k := 2) rfl q9.symm (by decide) rfl (fun ls hl => ?_)
          refine lv_goto (tgt := 8) hx hb dX5_findFault_48 (by decide) ?_
          exact ih v2_8 (0 : Int32) s6 e1 h hk H locs ls B (lv_sub hl [2, 0, 1] rfl)
        · have h := ip h q7
          refine lv_aload_n hx hb dX5_findFault_32 rfl (lv_at hl 0 rfl) ?_
          obtain ⟨r12, s11, q10, h⟩ := bd2_o h
          refine r_callVi (rest := []) C B hl (c_X5_takeSemicolon G s6 r12 s11 q10) cs_X5_43 (cX_27 G s6) rfl rfl rfl (Nat.le_of_ble_eq_true rfl) ⟨rfl, rfl, Nat.le_of_ble_eq_true rfl, Nat.le_of_ble_eq_true rfl⟩ dX5_findFault_33 (fun H locs B => ?_)
          refine lv_if_eq (tgt := 43) hx hb dX5_findFault_36 (by decide) (fun q13 => ?_) (fun q13 => ?_)
          · have h := ip h q13
            refine lv_iconst (v := (0 : Int32)) hx hb dX5_findFault_43 rfl ?_
            refine lv_istore_n (lv' := [(1, .int (0 : Int32)), (0, .ref (gad G 27)), (2, .int v2)]) hx hb dX5_findFault_44 rfl hl (by decide) rfl (fun ls hl => ?_)
            obtain ⟨v2_14, q15, h⟩ := nm_o h
            refine lv_iinc (v := v2_14) (lv' := [(2, .int v2_14), (1, .int (0 : Int32)), (0, .ref (gad G 27))]) hx hb dX5_findFault_45 hl (k := 2) rfl q15.symm (by decide) rfl (fun ls hl => ?_)
            refine lv_goto (tgt := 8) hx hb dX5_findFault_48 (by decide) ?_
            exact ih v2_14 (0 : Int32) s11 e1 h hk H locs ls B (lv_sub hl [2, 0, 1] rfl)
          · have h := ig h q13
            refine lv_iconst (v := (1 : Int32)) hx hb dX5_findFault_39 rfl ?_
            refine lv_goto (tgt := 44) hx hb dX5_findFault_40 (by decide) ?_
            refine lv_istore_n (lv' := [(1, .int (1 : Int32)), (0, .ref (gad G 27)), (2, .int v2)]) hx hb dX5_findFault_44 rfl hl (by decide) rfl (fun ls hl => ?_)
            obtain ⟨v2_16, q17, h⟩ := nm_o h
            refine lv_iinc (v := v2_16) (lv' := [(2, .int v2_16), (1, .int (1 : Int32)), (0, .ref (gad G 27))]) hx hb dX5_findFault_45 hl (k := 2) rfl q17.symm (by decide) rfl (fun ls hl => ?_)
            refine lv_goto (tgt := 8) hx hb dX5_findFault_48 (by decide) ?_
            exact ih v2_16 (1 : Int32) s11 e1 h hk H locs ls B (lv_sub hl [2, 0, 1] rfl)
set_option maxRecDepth 100000 in
set_option maxHeartbeats 4000000 in
theorem c_X5_findFault (G : GT) (n : Nat) (s0 : ST)  (r : Int32) (s' : ST) (h : X5_findFault n s0  = some (r, s')) : Con G yX5_findFault cX5_findFault 3 (some .int) rm_X5_findFault [.ref (gad G 27)] (wX G s0) (some (.int r)) (wX G s') := by
  unfold X5_findFault at h
  refine con_of (by decide +kernel) (Nat.le_of_ble_eq_true rfl) (fun {p e s m below meth c} C hr {H locs ls} B hl => ?_)
  have hx := C.1
  have hb := C.2.1
  have hl : lv_has ls 3 [(0, .ref (gad G 27))] := hl
  refine lv_aload_n hx hb dX5_findFault_0 rfl (lv_at hl 0 rfl) ?_
  obtain ⟨s2, q1, h⟩ := bd_o h
  refine r_callVv (rest := []) C B hl (c_X5_rewind G s0 s2 q1) cs_X5_37 (cX_27 G s0) rfl rfl rfl (Nat.le_of_ble_eq_true rfl) ⟨rfl, rfl, Nat.le_of_ble_eq_true rfl, Nat.le_of_ble_eq_true rfl⟩ dX5_findFault_1 (fun H locs B => ?_)
  refine lv_iconst (v := (1 : Int32)) hx hb dX5_findFault_4 rfl ?_
  refine lv_istore_n (lv' := [(1, .int (1 : Int32)), (0, .ref (gad G 27))]) hx hb dX5_findFault_5 rfl hl (by decide) rfl (fun ls hl => ?_)
  refine lv_iconst (v := (0 : Int32)) hx hb dX5_findFault_6 rfl ?_
  refine lv_istore_n (lv' := [(2, .int (0 : Int32)), (1, .int (1 : Int32)), (0, .ref (gad G 27))]) hx hb dX5_findFault_7 rfl hl (by decide) rfl (fun ls hl => ?_)
  obtain ⟨e18, q19, h⟩ := bd_o h
  refine l_X5_findFault_L1 C hr n n (0 : Int32) (1 : Int32) s2 e18 q19 ?_ H locs ls B (lv_sub hl [2, 0, 1] rfl)
  intro H locs ls B hl
  refine lv_aload_n hx hb dX5_findFault_51 rfl (lv_at hl 0 rfl) ?_
  refine r_get C B fo_X5_34 (cX_27 G e18) rfl dX5_findFault_52 ?_
  obtain ⟨rfl, rfl⟩ := ret2 h
  exact r_iret C B hr rfl dX5_findFault_55
def rm_X6_isDone : Room := { frames := 3, cells := 0, slots := 0, locals := 63 }
set_option maxRecDepth 100000 in
set_option maxHeartbeats 4000000 in
theorem c_X6_isDone (G : GT) (n : Nat) (s0 : ST)  (r : Int32) (s' : ST) (h : X6_isDone n s0  = some (r, s')) : Con G yX6_isDone cX6_isDone 1 (some .boolean) rm_X6_isDone [.ref (gad G 0)] (wX G s0) (some (.int r)) (wX G s') := by
  unfold X6_isDone at h
  refine con_of (by decide +kernel) (Nat.le_of_ble_eq_true rfl) (fun {p e s m below meth c} C hr {H locs ls} B hl => ?_)
  have hx := C.1
  have hb := C.2.1
  have hl : lv_has ls 1 [(0, .ref (gad G 0))] := hl
  refine lv_aload_n hx hb dX6_isDone_0 rfl (lv_at hl 0 rfl) ?_
  refine r_get C B fo_X6_49 (cX_0 G s0) rfl dX6_isDone_1 ?_
  refine r_get C B fo_X6_278 (cX_27 G s0) rfl dX6_isDone_4 ?_
  by_cases q1 : (s0.1 12) = (1 : Int32)
  · have h := ip h q1
    refine r_tab (off := 37) (tgt := 44) C q1 dX6_isDone_7 (by decide) (by decide) ?_
    refine lv_aload_n hx hb dX6_isDone_44 rfl (lv_at hl 0 rfl) ?_
    refine lv_aload_n hx hb dX6_isDone_45 rfl (lv_at hl 0 rfl) ?_
    refine r_get C B fo_X6_49 (cX_0 G s0) rfl dX6_isDone_46 ?_
    refine r_get C B fo_X6_281 (cX_27 G s0) rfl dX6_isDone_49 ?_
    obtain ⟨r4, s3, q2, h⟩ := bd2_o h
    refine r_callVi (rest := []) C B hl (c_X6_posts G n s0 (s0.1 13) r4 s3 q2) cs_X6_284 (cX_0 G s0) rfl rfl rfl (Nat.le_of_ble_eq_true rfl) ⟨rfl, rfl, Nat.le_of_ble_eq_true rfl, Nat.le_of_ble_eq_true rfl⟩ dX6_isDone_52 (fun H locs B => ?_)
    refine lv_if_lt (tgt := 62) hx hb dX6_isDone_55 (by decide) (fun q5 => ?_) (fun q5 => ?_)
    · have h := ip h q5
      refine lv_iconst (v := (0 : Int32)) hx hb dX6_isDone_62 rfl ?_
      obtain ⟨rfl, rfl⟩ := ret2 h
      exact r_iret C B hr nar_0 dX6_isDone_63
    · have h := ig h q5
      refine lv_iconst (v := (1 : Int32)) hx hb dX6_isDone_58 rfl ?_
      refine lv_goto (tgt := 63) hx hb dX6_isDone_59 (by decide) ?_
      obtain ⟨rfl, rfl⟩ := ret2 h
      exact r_iret C B hr nar_1 dX6_isDone_63
  · have h := ig h q1
    by_cases q6 : (s0.1 12) = (2 : Int32)
    · have h := ip h q6
      refine r_tab (off := 57) (tgt := 64) C q6 dX6_isDone_7 (by decide) (by decide) ?_
      refine lv_aload_n hx hb dX6_isDone_64 rfl (lv_at hl 0 rfl) ?_
      refine lv_aload_n hx hb dX6_isDone_65 rfl (lv_at hl 0 rfl) ?_
      refine r_get C B fo_X6_49 (cX_0 G s0) rfl dX6_isDone_66 ?_
      refine r_get C B fo_X6_281 (cX_27 G s0) rfl dX6_isDone_69 ?_
      refine lv_aload_n hx hb dX6_isDone_72 rfl (lv_at hl 0 rfl) ?_
      refine r_get C B fo_X6_49 (cX_0 G s0) rfl dX6_isDone_73 ?_
      refine r_get C B fo_X6_286 (cX_27 G s0) rfl dX6_isDone_76 ?_
      refine lv_iconst (v := (1 : Int32)) hx hb dX6_isDone_79 rfl ?_
      obtain ⟨r9, s8, q7, h⟩ := bd2_o h
      refine r_callVi (rest := []) C B hl (c_X6_road G s0 (s0.1 13) (s0.1 14) (1 : Int32) r9 s8 q7) cs_X6_289 (cX_0 G s0) rfl rfl rfl (Nat.le_of_ble_eq_true rfl) ⟨rfl, rfl, Nat.le_of_ble_eq_true rfl, Nat.le_of_ble_eq_true rfl⟩ dX6_isDone_80 (fun H locs B => ?_)
      refine lv_if_lt (tgt := 90) hx hb dX6_isDone_83 (by decide) (fun q10 => ?_) (fun q10 => ?_)
      · have h := ip h q10
        refine lv_iconst (v := (0 : Int32)) hx hb dX6_isDone_90 rfl ?_
        obtain ⟨rfl, rfl⟩ := ret2 h
        exact r_iret C B hr nar_0 dX6_isDone_91
      · have h := ig h q10
        refine lv_iconst (v := (1 : Int32)) hx hb dX6_isDone_86 rfl ?_
        refine lv_goto (tgt := 91) hx hb dX6_isDone_87 (by decide) ?_
        obtain ⟨rfl, rfl⟩ := ret2 h
        exact r_iret C B hr nar_1 dX6_isDone_91
    · have h := ig h q6
      by_cases q11 : (s0.1 12) = (3 : Int32)
      · have h := ip h q11
        refine r_tab (off := 85) (tgt := 92) C q11 dX6_isDone_7 (by decide) (by decide) ?_
        refine lv_aload_n hx hb dX6_isDone_92 rfl (lv_at hl 0 rfl) ?_
        refine lv_aload_n hx hb dX6_isDone_93 rfl (lv_at hl 0 rfl) ?_
        refine r_get C B fo_X6_49 (cX_0 G s0) rfl dX6_isDone_94 ?_
        refine r_get C B fo_X6_281 (cX_27 G s0) rfl dX6_isDone_97 ?_
        refine lv_aload_n hx hb dX6_isDone_100 rfl (lv_at hl 0 rfl) ?_
        refine r_get C B fo_X6_49 (cX_0 G s0) rfl dX6_isDone_101 ?_
        refine r_get C B fo_X6_286 (cX_27 G s0) rfl dX6_isDone_104 ?_
        refine lv_iconst (v := (0 : Int32)) hx hb dX6_isDone_107 rfl ?_
        obtain ⟨r14, s13, q12, h⟩ := bd2_o h
        refine r_callVi (rest := []) C B hl (c_X6_road G s0 (s0.1 13) (s0.1 14) (0 : Int32) r14 s13 q12) cs_X6_289 (cX_0 G s0) rfl rfl rfl (Nat.le_of_ble_eq_true rfl) ⟨rfl, rfl, Nat.le_of_ble_eq_true rfl, Nat.le_of_ble_eq_true rfl⟩ dX6_isDone_108 (fun H locs B => ?_)
        refine lv_if_lt (tgt := 118) hx hb dX6_isDone_111 (by decide) (fun q15 => ?_) (fun q15 => ?_)
        · have h := ip h q15
          refine lv_iconst (v := (0 : Int32)) hx hb dX6_isDone_118 rfl ?_
          obtain ⟨rfl, rfl⟩ := ret2 h
          exact r_iret C B hr nar_0 dX6_isDone_119
        · have h := ig h q15
          refine lv_iconst (v := (1 : Int32)) hx hb dX6_isDone_114 rfl ?_
          refine lv_goto (tgt := 119) hx hb dX6_isDone_115 (by decide) ?_
          obtain ⟨rfl, rfl⟩ := ret2 h
          exact r_iret C B hr nar_1 dX6_isDone_119
      · have h := ig h q11
        by_cases q16 : (s0.1 12) = (4 : Int32)
        · have h := ip h q16
          refine r_tab (off := 113) (tgt := 120) C q16 dX6_isDone_7 (by decide) (by decide) ?_
          refine lv_aload_n hx hb dX6_isDone_120 rfl (lv_at hl 0 rfl) ?_
          refine r_get C B fo_X6_10 (cX_0 G s0) rfl dX6_isDone_121 ?_
          refine lv_aload_n hx hb dX6_isDone_124 rfl (lv_at hl 0 rfl) ?_
          refine r_get C B fo_X6_49 (cX_0 G s0) rfl dX6_isDone_125 ?_
          refine r_get C B fo_X6_281 (cX_27 G s0) rfl dX6_isDone_128 ?_
          obtain ⟨r18, q17, h⟩ := bd_o h
          refine r_callVi (rest := []) C B hl (c_X4_isPost G s0 (s0.1 13) r18 q17) cs_X6_68 (cX_1 G s0) rfl rfl rfl (Nat.le_of_ble_eq_true rfl) ⟨rfl, rfl, Nat.le_of_ble_eq_true rfl, Nat.le_of_ble_eq_true rfl⟩ dX6_isDone_131 (fun H locs B => ?_)
          refine lv_if_eq (tgt := 165) hx hb dX6_isDone_134 (by decide) (fun q19 => ?_) (fun q19 => ?_)
          · have h := ip h q19
            refine lv_iconst (v := (0 : Int32)) hx hb dX6_isDone_165 rfl ?_
            obtain ⟨rfl, rfl⟩ := ret2 h
            exact r_iret C B hr nar_0 dX6_isDone_166
          · have h := ig h q19
            refine lv_aload_n hx hb dX6_isDone_137 rfl (lv_at hl 0 rfl) ?_
            refine lv_aload_n hx hb dX6_isDone_138 rfl (lv_at hl 0 rfl) ?_
            refine r_get C B fo_X6_10 (cX_0 G s0) rfl dX6_isDone_139 ?_
            refine r_get C B fo_X6_82 (cX_1 G s0) rfl dX6_isDone_142 ?_
            refine lv_iconst (v := (1 : Int32)) hx hb dX6_isDone_145 rfl ?_
            refine lv_aload_n hx hb dX6_isDone_146 rfl (lv_at hl 0 rfl) ?_
            refine r_get C B fo_X6_49 (cX_0 G s0) rfl dX6_isDone_147 ?_
            refine r_get C B fo_X6_281 (cX_27 G s0) rfl dX6_isDone_150 ?_
            refine lv_ishl hx hb dX6_isDone_153 ?_
            refine lv_ior hx hb dX6_isDone_154 ?_
            obtain ⟨r22, s21, q20, h⟩ := bd2_o h
            refine r_callVi (rest := []) C B hl (c_X6_targets G s0 ((s0.1 2) ||| ((1 : Int32) <<< ((s0.1 13) &&& 31))) r22 s21 q20) cs_X6_292 (cX_0 G s0) rfl rfl rfl (Nat.le_of_ble_eq_true rfl) ⟨rfl, rfl, Nat.le_of_ble_eq_true rfl, Nat.le_of_ble_eq_true rfl⟩ dX6_isDone_155 (fun H locs B => ?_)
            refine lv_if_lt (tgt := 165) hx hb dX6_isDone_158 (by decide) (fun q23 => ?_) (fun q23 => ?_)
            · have h := ip h q23
              refine lv_iconst (v := (0 : Int32)) hx hb dX6_isDone_165 rfl ?_
              obtain ⟨rfl, rfl⟩ := ret2 h
              exact r_iret C B hr nar_0 dX6_isDone_166
            · have h := ig h q23
              refine lv_iconst (v := (1 : Int32)) hx hb dX6_isDone_161 rfl ?_
              refine lv_goto (tgt := 166) hx hb dX6_isDone_162 (by decide) ?_
              obtain ⟨rfl, rfl⟩ := ret2 h
              exact r_iret C B hr nar_1 dX6_isDone_166
        · have h := ig h q16
          by_cases q24 : (s0.1 12) = (5 : Int32)
          · have h := ip h q24
            refine r_tab (off := 160) (tgt := 167) C q24 dX6_isDone_7 (by decide) (by decide) ?_
            refine lv_aload_n hx hb dX6_isDone_167 rfl (lv_at hl 0 rfl) ?_
            refine lv_aload_n hx hb dX6_isDone_168 rfl (lv_at hl 0 rfl) ?_
            refine r_get C B fo_X6_49 (cX_0 G s0) rfl dX6_isDone_169 ?_
            refine r_get C B fo_X6_294 (cX_27 G s0) rfl dX6_isDone_172 ?_
            obtain ⟨r27, s26, q25, h⟩ := bd2_o h
            refine r_callVi (rest := []) C B hl (c_X6_add G s0 (s0.1 15) r27 s26 q25) cs_X6_297 (cX_0 G s0) rfl rfl rfl (Nat.le_of_ble_eq_true rfl) ⟨rfl, rfl, Nat.le_of_ble_eq_true rfl, Nat.le_of_ble_eq_true rfl⟩ dX6_isDone_175 (fun H locs B => ?_)
            refine lv_if_lt (tgt := 185) hx hb dX6_isDone_178 (by decide) (fun q28 => ?_) (fun q28 => ?_)
            · have h := ip h q28
              refine lv_iconst (v := (0 : Int32)) hx hb dX6_isDone_185 rfl ?_
              obtain ⟨rfl, rfl⟩ := ret2 h
              exact r_iret C B hr nar_0 dX6_isDone_186
            · have h := ig h q28
              refine lv_iconst (v := (1 : Int32)) hx hb dX6_isDone_181 rfl ?_
              refine lv_goto (tgt := 186) hx hb dX6_isDone_182 (by decide) ?_
              obtain ⟨rfl, rfl⟩ := ret2 h
              exact r_iret C B hr nar_1 dX6_isDone_186
          · have h := ig h q24
            by_cases q29 : (s0.1 12) = (6 : Int32)
            · have h := ip h q29
              refine r_tab (off := 180) (tgt := 187) C q29 dX6_isDone_7 (by decide) (by decide) ?_
              refine lv_aload_n hx hb dX6_isDone_187 rfl (lv_at hl 0 rfl) ?_
              refine lv_aload_n hx hb dX6_isDone_188 rfl (lv_at hl 0 rfl) ?_
              refine r_get C B fo_X6_49 (cX_0 G s0) rfl dX6_isDone_189 ?_
              refine r_get C B fo_X6_281 (cX_27 G s0) rfl dX6_isDone_192 ?_
              refine lv_aload_n hx hb dX6_isDone_195 rfl (lv_at hl 0 rfl) ?_
              refine r_get C B fo_X6_49 (cX_0 G s0) rfl dX6_isDone_196 ?_
              refine r_get C B fo_X6_286 (cX_27 G s0) rfl dX6_isDone_199 ?_
              obtain ⟨r32, s31, q30, h⟩ := bd2_o h
              refine r_callVi (rest := []) C B hl (c_X6_weigh G s0 (s0.1 13) (s0.1 14) r32 s31 q30) cs_X6_300 (cX_0 G s0) rfl rfl rfl (Nat.le_of_ble_eq_true rfl) ⟨rfl, rfl, Nat.le_of_ble_eq_true rfl, Nat.le_of_ble_eq_true rfl⟩ dX6_isDone_202 (fun H locs B => ?_)
              refine lv_if_lt (tgt := 212) hx hb dX6_isDone_205 (by decide) (fun q33 => ?_) (fun q33 => ?_)
              · have h := ip h q33
                refine lv_iconst (v := (0 : Int32)) hx hb dX6_isDone_212 rfl ?_
                obtain ⟨rfl, rfl⟩ := ret2 h
                exact r_iret C B hr nar_0 dX6_isDone_213
              · have h := ig h q33
                refine lv_iconst (v := (1 : Int32)) hx hb dX6_isDone_208 rfl ?_
                refine lv_goto (tgt := 213) hx hb dX6_isDone_209 (by decide) ?_
                obtain ⟨rfl, rfl⟩ := ret2 h
                exact r_iret C B hr nar_1 dX6_isDone_213
            · have h := ig h q29
              refine lv_tableOut (tgt := 214) hx hb dX6_isDone_7 (r_span (fun k h1 h2 => by have e : k = 1 ∨ k = 2 ∨ k = 3 ∨ k = 4 ∨ k = 5 ∨ k = 6 := (by omega); rcases e with rfl | rfl | rfl | rfl | rfl | rfl; exact ne_toInt q1; exact ne_toInt q6; exact ne_toInt q11; exact ne_toInt q16; exact ne_toInt q24; exact ne_toInt q29)) (by decide) ?_
              refine lv_iconst (v := (0 : Int32)) hx hb dX6_isDone_214 rfl ?_
              obtain ⟨rfl, rfl⟩ := ret2 h
              exact r_iret C B hr nar_0 dX6_isDone_215
def rm_X6_doStatements : Room := { frames := 7, cells := 0, slots := 0, locals := 150 }
set_option maxRecDepth 100000 in
set_option maxHeartbeats 4000000 in
theorem l_X6_doStatements_L1 {G : GT} {p : Program} {e : Env} {s : State} {m : MethodId} {args : Array Value} {below : List Frame} {meth : Method} {c : Code} {Q : State → Prop} (C : CT G p s m meth c args cX6_doStatements 4 RX6) (hr : meth.sig.returnType = (some .int)) (n : Nat) : ∀ (k : Nat) (v3 : Int32) (v2 : Int32) (v1 : Int32) (s0 : ST) (e1 : (Int32 × ST) ⊕ (Int32 × ST)), X6_doStatements_L1 n k v3 v2 v1 s0 = some e1 → (∀ rv, e1 = Sum.inl rv → Q = QR G below args s (some (.int rv.1)) (wX G rv.2)) → (∀ ex, e1 = Sum.inr ex → Kn G p e rm_X6_doStatements s m args below meth c Q 4 65 [(1, .int ex.1)] (wX G ex.2)) → Kn G p e rm_X6_doStatements s m args below meth c Q 4 13 [(0, .ref (gad G 0)), (3, .int v3), (2, .int v2), (1, .int v1)] (wX G s0) := by
  have hx := C.1
  have hb := C.2.1
  intro k
  induction k with
  | zero =>
    intro v3 v2 v1 s0 e1 h
    exact nso h
  | succ k ih =>
    intro v3 v2 v1 s0 e1 h hret hk H locs ls B hl
    have h : X6_doStatements_L1_b n (X6_doStatements_L1 n k) v3 v2 v1 s0 = some e1 := h
    unfold X6_doStatements_L1_b at h
    refine lv_iload_n hx hb dX6_doStatements_13 rfl (lv_at hl 2 rfl) ?_
    refine lv_if_eq (tgt := 65) hx hb dX6_doStatements_14 (by decide) (fun q3 => ?_) (fun q3 => ?_)
    · have h := ip h q3
      obtain rfl := ret1 h
      exact hk _ rfl H locs ls B (lv_sub hl [3] rfl)
    · have h := ig h q3
      refine lv_iload_n hx hb dX6_doStatements_17 rfl (lv_at hl 1 rfl) ?_
      refine lv_aload_n hx hb dX6_doStatements_18 rfl (lv_at hl 0 rfl) ?_
      refine r_get C B fo_X6_49 (cX_0 G s0) rfl dX6_doStatements_19 ?_
      refine r_get C B fo_X6_231 (cX_27 G s0) rfl dX6_doStatements_22 ?_
      refine lv_icmp_gt (tgt := 65) hx hb dX6_doStatements_25 (by decide) (fun q4 => ?_) (fun q4 => ?_)
      · have h := ip h q4
        obtain rfl := ret1 h
        exact hk _ rfl H locs ls B (lv_sub hl [3] rfl)
      · have h := ig h q4
        refine lv_aload_n hx hb dX6_doStatements_28 rfl (lv_at hl 0 rfl) ?_
        refine r_get C B fo_X6_49 (cX_0 G s0) rfl dX6_doStatements_29 ?_
        obtain ⟨s6, q5, h⟩ := bd_o h
        refine r_callVv (rest := []) C B hl (c_X5_takeStatement G n s0 s6 q5) cs_X6_268 (cX_27 G s0) rfl rfl rfl (Nat.le_of_ble_eq_true rfl) ⟨rfl, rfl, Nat.le_of_ble_eq_true rfl, Nat.le_of_ble_eq_true rfl⟩ dX6_doStatements_32 (fun H locs B => ?_)
        refine lv_aload_n hx hb dX6_doStatements_35 rfl (lv_at hl 0 rfl) ?_
        obtain ⟨r9, s8, q7, h⟩ := bd2_o h
        refine r_callVi (rest := []) C B hl (c_X6_isDone G n s6 r9 s8 q7) cs_X6_271 (cX_0 G s6) rfl rfl rfl (Nat.le_of_ble_eq_true rfl) ⟨rfl, rfl, Nat.le_of_ble_eq_true rfl, Nat.le_of_ble_eq_true rfl⟩ dX6_doStatements_36 (fun H locs B => ?_)
        refine lv_if_ne (tgt := 48) hx hb dX6_doStatements_39 (by decide) (fun q10 => ?_) (fun q10 => ?_)
        · have h := ig h q10
          obtain ⟨v1_11, q12, h⟩ := nm_o h
          refine lv_iinc (v := v1_11) (lv' := [(1, .int v1_11), (0, .ref (gad G 0)), (3, .int v3), (2, .int v2)]) hx hb dX6_doStatements_48 hl (k := 3) rfl q12.symm (by decide) rfl (fun ls hl => ?_)
          refine lv_aload_n hx hb dX6_doStatements_51 rfl (lv_at hl 1 rfl) ?_
          refine r_get C B fo_X6_49 (cX_0 G s8) rfl dX6_doStatements_52 ?_
          obtain ⟨r15, s14, q13, h⟩ := bd2_o h
          refine r_callVi (rest := []) C B hl (c_X5_takeSemicolon G s8 r15 s14 q13) cs_X6_275 (cX_27 G s8) rfl rfl rfl (Nat.le_of_ble_eq_true rfl) ⟨rfl, rfl, Nat.le_of_ble_eq_true rfl, Nat.le_of_ble_eq_true rfl⟩ dX6_doStatements_55 (fun H locs B => ?_)
          refine lv_istore_n (lv' := [(2, .int r15), (1, .int v1_11), (0, .ref (gad G 0)), (3, .int v3)]) hx hb dX6_doStatements_58 rfl hl (by decide) rfl (fun ls hl => ?_)
          obtain ⟨v3_16, q17, h⟩ := nm_o h
          refine lv_iinc (v := v3_16) (lv' := [(3, .int v3_16), (2, .int r15), (1, .int v1_11), (0, .ref (gad G 0))]) hx hb dX6_doStatements_59 hl (k := 3) rfl q17.symm (by decide) rfl (fun ls hl => ?_)
          refine lv_goto (tgt := 13) hx hb dX6_doStatements_62 (by decide) ?_
          exact ih v3_16 r15 v1_11 s14 e1 h hret hk H locs ls B (lv_sub hl [3, 0, 1, 2] rfl)
        · have h := ip h q10
          refine lv_sipush (v := (-300 : Int32)) hx hb dX6_doStatements_42 rfl ?_
          refine lv_iload_n hx hb dX6_doStatements_45 rfl (lv_at hl 3 rfl) ?_
          refine lv_isub hx hb dX6_doStatements_46 ?_
          obtain rfl := ret1 h
          rw [hret _ rfl]
          exact r_iret C B hr rfl dX6_doStatements_47
set_option maxRecDepth 100000 in
set_option maxHeartbeats 4000000 in
theorem c_X6_doStatements (G : GT) (n : Nat) (s0 : ST)  (r : Int32) (s' : ST) (h : X6_doStatements n s0  = some (r, s')) : Con G yX6_doStatements cX6_doStatements 4 (some .int) rm_X6_doStatements [.ref (gad G 0)] (wX G s0) (some (.int r)) (wX G s') := by
  unfold X6_doStatements at h
  refine con_of (by decide +kernel) (Nat.le_of_ble_eq_true rfl) (fun {p e s m below meth c} C hr {H locs ls} B hl => ?_)
  have hx := C.1
  have hb := C.2.1
  have hl : lv_has ls 4 [(0, .ref (gad G 0))] := hl
  refine lv_aload_n hx hb dX6_doStatements_0 rfl (lv_at hl 0 rfl) ?_
  refine r_get C B fo_X6_49 (cX_0 G s0) rfl dX6_doStatements_1 ?_
  obtain ⟨s2, q1, h⟩ := bd_o h
  refine r_callVv (rest := []) C B hl (c_X5_rewind G s0 s2 q1) cs_X6_265 (cX_27 G s0) rfl rfl rfl (Nat.le_of_ble_eq_true rfl) ⟨rfl, rfl, Nat.le_of_ble_eq_true rfl, Nat.le_of_ble_eq_true rfl⟩ dX6_doStatements_4 (fun H locs B => ?_)
  refine lv_iconst (v := (0 : Int32)) hx hb dX6_doStatements_7 rfl ?_
  refine lv_istore_n (lv' := [(1, .int (0 : Int32)), (0, .ref (gad G 0))]) hx hb dX6_doStatements_8 rfl hl (by decide) rfl (fun ls hl => ?_)
  refine lv_iconst (v := (1 : Int32)) hx hb dX6_doStatements_9 rfl ?_
  refine lv_istore_n (lv' := [(2, .int (1 : Int32)), (1, .int (0 : Int32)), (0, .ref (gad G 0))]) hx hb dX6_doStatements_10 rfl hl (by decide) rfl (fun ls hl => ?_)
  refine lv_iconst (v := (0 : Int32)) hx hb dX6_doStatements_11 rfl ?_
  refine lv_istore_n (lv' := [(3, .int (0 : Int32)), (2, .int (1 : Int32)), (1, .int (0 : Int32)), (0, .ref (gad G 0))]) hx hb dX6_doStatements_12 rfl hl (by decide) rfl (fun ls hl => ?_)
  obtain ⟨e18, q19, h⟩ := bd_o h
  refine l_X6_doStatements_L1 C hr n n (0 : Int32) (1 : Int32) (0 : Int32) s2 e18 q19 (fun rv q => by have h := sm_l h q; cases h; rfl) (fun e20 q21 => ?_) H locs ls B (lv_sub hl [3, 0, 1, 2] rfl)
  have h := sm_r h q21
  intro H locs ls B hl
  refine lv_iload_n hx hb dX6_doStatements_65 rfl (lv_at hl 0 rfl) ?_
  obtain ⟨rfl, rfl⟩ := ret2 h
  exact r_iret C B hr rfl dX6_doStatements_66
def rm_X6_read : Room := { frames := 8, cells := 0, slots := 0, locals := 173 }
set_option maxRecDepth 100000 in
set_option maxHeartbeats 4000000 in
theorem c_X6_read (G : GT) (n : Nat) (s0 : ST)  (r : Int32) (s' : ST) (h : X6_read n s0  = some (r, s')) : Con G yX6_read cX6_read 3 (some .int) rm_X6_read [.ref (gad G 0)] (wX G s0) (some (.int r)) (wX G s') := by
  unfold X6_read at h
  refine con_of (by decide +kernel) (Nat.le_of_ble_eq_true rfl) (fun {p e s m below meth c} C hr {H locs ls} B hl => ?_)
  have hx := C.1
  have hb := C.2.1
  have hl : lv_has ls 3 [(0, .ref (gad G 0))] := hl
  refine lv_aload_n hx hb dX6_read_0 rfl (lv_at hl 0 rfl) ?_
  refine r_get C B fo_X6_49 (cX_0 G s0) rfl dX6_read_1 ?_
  obtain ⟨r3, s2, q1, h⟩ := bd2_o h
  refine r_callVi (rest := []) C B hl (c_X5_findFault G n s0 r3 s2 q1) cs_X6_238 (cX_27 G s0) rfl rfl rfl (Nat.le_of_ble_eq_true rfl) ⟨rfl, rfl, Nat.le_of_ble_eq_true rfl, Nat.le_of_ble_eq_true rfl⟩ dX6_read_4 (fun H locs B => ?_)
  refine lv_istore_n (lv' := [(1, .int r3), (0, .ref (gad G 0))]) hx hb dX6_read_7 rfl hl (by decide) rfl (fun ls hl => ?_)
  refine lv_iload_n hx hb dX6_read_8 rfl (lv_at hl 0 rfl) ?_
  refine lv_iconst (v := (-1 : Int32)) hx hb dX6_read_9 rfl ?_
  refine lv_icmp_ne (tgt := 20) hx hb dX6_read_10 (by decide) (fun q4 => ?_) (fun q4 => ?_)
  · have h := ig h q4
    refine lv_bipush (v := (-100 : Int32)) hx hb dX6_read_20 rfl ?_
    refine lv_iload_n hx hb dX6_read_22 rfl (lv_at hl 0 rfl) ?_
    refine lv_isub hx hb dX6_read_23 ?_
    obtain ⟨v2_5, q6, h⟩ := nm_o h
    refine r_nm q6 ?_
    refine lv_istore_n (lv' := [(2, .int v2_5), (1, .int r3), (0, .ref (gad G 0))]) hx hb dX6_read_24 rfl hl (by decide) rfl (fun ls hl => ?_)
    refine lv_aload_n hx hb dX6_read_25 rfl (lv_at hl 2 rfl) ?_
    refine r_get C B fo_X6_49 (cX_0 G s2) rfl dX6_read_26 ?_
    refine lv_iconst (v := (0 : Int32)) hx hb dX6_read_29 rfl ?_
    obtain ⟨s7, q8, h⟩ := nm_o h
    refine r_put C B fp_X6_231 (cX_27 G s2) (Nat.le_of_ble_eq_true rfl) rfl rfl ((uXs_11 G s2 _).trans (congrArg (wX G) q8.symm)) dX6_read_30 (fun H locs B => ?_)
    refine lv_iload_n hx hb dX6_read_33 rfl (lv_at hl 0 rfl) ?_
    obtain ⟨rfl, rfl⟩ := ret2 h
    exact r_iret C B hr rfl dX6_read_34
  · have h := ip h q4
    refine lv_aload_n hx hb dX6_read_13 rfl (lv_at hl 1 rfl) ?_
    obtain ⟨r11, s10, q9, h⟩ := bd2_o h
    refine r_callVi (rest := []) C B hl (c_X6_doStatements G n s2 r11 s10 q9) cs_X6_241 (cX_0 G s2) rfl rfl rfl (Nat.le_of_ble_eq_true rfl) ⟨rfl, rfl, Nat.le_of_ble_eq_true rfl, Nat.le_of_ble_eq_true rfl⟩ dX6_read_14 (fun H locs B => ?_)
    refine lv_goto (tgt := 24) hx hb dX6_read_17 (by decide) ?_
    refine lv_istore_n (lv' := [(2, .int r11), (1, .int r3), (0, .ref (gad G 0))]) hx hb dX6_read_24 rfl hl (by decide) rfl (fun ls hl => ?_)
    refine lv_aload_n hx hb dX6_read_25 rfl (lv_at hl 2 rfl) ?_
    refine r_get C B fo_X6_49 (cX_0 G s10) rfl dX6_read_26 ?_
    refine lv_iconst (v := (0 : Int32)) hx hb dX6_read_29 rfl ?_
    obtain ⟨s12, q13, h⟩ := nm_o h
    refine r_put C B fp_X6_231 (cX_27 G s10) (Nat.le_of_ble_eq_true rfl) rfl rfl ((uXs_11 G s10 _).trans (congrArg (wX G) q13.symm)) dX6_read_30 (fun H locs B => ?_)
    refine lv_iload_n hx hb dX6_read_33 rfl (lv_at hl 0 rfl) ?_
    obtain ⟨rfl, rfl⟩ := ret2 h
    exact r_iret C B hr rfl dX6_read_34
def rm_X3_writeSign : Room := { frames := 0, cells := 0, slots := 0, locals := 0 }
set_option maxRecDepth 100000 in
set_option maxHeartbeats 4000000 in
theorem c_X3_writeSign (G : GT) (s0 : ST) (v1 : Int32) (s' : ST) (h : X3_writeSign s0 v1 = some s') : Con G yX3_writeSign cX3_writeSign 2 none rm_X3_writeSign [.ref (gad G 29), .int v1] (wX G s0) none (wX G s') := by
  unfold X3_writeSign at h
  refine con_of (by decide +kernel) (Nat.le_of_ble_eq_true rfl) (fun {p e s m below meth c} C hr {H locs ls} B hl => ?_)
  have hx := C.1
  have hb := C.2.1
  have hl : lv_has ls 2 [(0, .ref (gad G 29)), (1, .int v1)] := hl
  refine lv_aload_n hx hb dX3_writeSign_0 rfl (lv_at hl 0 rfl) ?_
  refine r_get C B fo_X3_15 (cX_29 G s0) rfl dX3_writeSign_1 ?_
  refine lv_sipush (v := (800 : Int32)) hx hb dX3_writeSign_4 rfl ?_
  refine lv_icmp_lt (tgt := 11) hx hb dX3_writeSign_7 (by decide) (fun q1 => ?_) (fun q1 => ?_)
  · have h := ip h q1
    refine lv_aload_n hx hb dX3_writeSign_11 rfl (lv_at hl 0 rfl) ?_
    refine r_get C B fo_X3_9 (cX_29 G s0) rfl dX3_writeSign_12 ?_
    refine lv_aload_n hx hb dX3_writeSign_15 rfl (lv_at hl 0 rfl) ?_
    refine r_get C B fo_X3_15 (cX_29 G s0) rfl dX3_writeSign_16 ?_
    refine lv_iload_n hx hb dX3_writeSign_19 rfl (lv_at hl 1 rfl) ?_
    obtain ⟨q2, h⟩ := gd_o h
    obtain ⟨q5, h⟩ := gd_o h
    obtain ⟨s3, q4, h⟩ := nm_o h
    refine r_cast C B (cX_30 G s0) (inb_vp q2) q5 ((uXa_16 G s0 _).trans (congrArg (wX G) q4.symm)) dX3_writeSign_20 (fun H locs B => ?_)
    refine lv_aload_n hx hb dX3_writeSign_21 rfl (lv_at hl 0 rfl) ?_
    refine lv_dup hx hb dX3_writeSign_22 rfl ?_
    refine r_get C B fo_X3_15 (cX_29 G s3) rfl dX3_writeSign_23 ?_
    refine lv_iconst (v := (1 : Int32)) hx hb dX3_writeSign_26 rfl ?_
    refine lv_iadd hx hb dX3_writeSign_27 ?_
    obtain ⟨s6, q7, h⟩ := nm_o h
    refine r_put C B fp_X3_15 (cX_29 G s3) (Nat.le_of_ble_eq_true rfl) rfl rfl ((uXs_18 G s3 _).trans (congrArg (wX G) q7.symm)) dX3_writeSign_28 (fun H locs B => ?_)
    obtain rfl := ret1 h
    exact r_vret C B hr dX3_writeSign_31
  · have h := ig h q1
    obtain rfl := ret1 h
    exact r_vret C B hr dX3_writeSign_10
def rm_X3_write : Room := { frames := 4, cells := 0, slots := 0, locals := 85 }
set_option maxRecDepth 100000 in
set_option maxHeartbeats 4000000 in
theorem l_X3_write_L1 {G : GT} {p : Program} {e : Env} {s : State} {m : MethodId} {args : Array Value} {below : List Frame} {meth : Method} {c : Code} {Q : State → Prop} (C : CT G p s m meth c args cX3_write 3 RX3) (hr : meth.sig.returnType = none) (v1 : Nat) : ∀ (k : Nat) (v2 : Int32) (s0 : ST) (e1 : ST), X3_write_L1 v1 k v2 s0 = some e1 → Kn G p e rm_X3_write s m args below meth c Q 3 25 [] (wX G e1) → Kn G p e rm_X3_write s m args below meth c Q 3 2 [(0, .ref (gad G 29)), (1, .ref (gK G v1)), (2, .int v2)] (wX G s0) := by
  have hx := C.1
  have hb := C.2.1
  intro k
  induction k with
  | zero =>
    intro v2 s0 e1 h
    exact nso h
  | succ k ih =>
    intro v2 s0 e1 h hk H locs ls B hl
    have h : X3_write_L1_b v1 (X3_write_L1 v1 k) v2 s0 = some e1 := h
    unfold X3_write_L1_b at h
    refine lv_iload_n hx hb dX3_write_2 rfl (lv_at hl 2 rfl) ?_
    refine lv_aload_n hx hb dX3_write_3 rfl (lv_at hl 1 rfl) ?_
    obtain ⟨r1, q2, h⟩ := bd_o h
    refine r_callTi (rest := [.int v2]) C B.2.2 hl (txok_length q2) rfl (c_Tlength G v1 r1 q2) cs_X3_87 rfl rfl (Nat.le_of_ble_eq_true rfl) ⟨rfl, rfl, Nat.le_of_ble_eq_true rfl, Nat.le_of_ble_eq_true rfl⟩ dX3_write_4 ?_
    refine lv_icmp_ge (tgt := 25) hx hb dX3_write_7 (by decide) (fun q3 => ?_) (fun q3 => ?_)
    · have h := ip h q3
      obtain rfl := ret1 h
      exact hk H locs ls B (lv_sub hl [] rfl)
    · have h := ig h q3
      refine lv_aload_n hx hb dX3_write_10 rfl (lv_at hl 0 rfl) ?_
      refine lv_aload_n hx hb dX3_write_11 rfl (lv_at hl 1 rfl) ?_
      refine lv_iload_n hx hb dX3_write_12 rfl (lv_at hl 2 rfl) ?_
      obtain ⟨r4, q5, h⟩ := bd_o h
      refine r_callTi (rest := [.ref (gad G 29)]) C B.2.2 hl (txok_charAt q5) rfl (c_TcharAt G v1 v2 r4 q5) cs_X3_92 rfl rfl (Nat.le_of_ble_eq_true rfl) ⟨rfl, rfl, Nat.le_of_ble_eq_true rfl, Nat.le_of_ble_eq_true rfl⟩ dX3_write_13 ?_
      obtain ⟨s7, q6, h⟩ := bd_o h
      refine r_callVv (rest := []) C B hl (c_X3_writeSign G s0 r4 s7 q6) cs_X3_83 (cX_29 G s0) rfl rfl rfl (Nat.le_of_ble_eq_true rfl) ⟨rfl, rfl, Nat.le_of_ble_eq_true rfl, Nat.le_of_ble_eq_true rfl⟩ dX3_write_16 (fun H locs B => ?_)
      obtain ⟨v2_8, q9, h⟩ := nm_o h
      refine lv_iinc (v := v2_8) (lv' := [(2, .int v2_8), (0, .ref (gad G 29)), (1, .ref (gK G v1))]) hx hb dX3_write_19 hl (k := 2) rfl q9.symm (by decide) rfl (fun ls hl => ?_)
      refine lv_goto (tgt := 2) hx hb dX3_write_22 (by decide) ?_
      exact ih v2_8 s7 e1 h hk H locs ls B (lv_sub hl [1, 2, 0] rfl)
set_option maxRecDepth 100000 in
set_option maxHeartbeats 4000000 in
theorem c_X3_write (G : GT) (n : Nat) (s0 : ST) (v1 : Nat) (s' : ST) (h : X3_write n s0 v1 = some s') : Con G yX3_write cX3_write 3 none rm_X3_write [.ref (gad G 29), .ref (gK G v1)] (wX G s0) none (wX G s') := by
  unfold X3_write at h
  refine con_of (by decide +kernel) (Nat.le_of_ble_eq_true rfl) (fun {p e s m below meth c} C hr {H locs ls} B hl => ?_)
  have hx := C.1
  have hb := C.2.1
  have hl : lv_has ls 3 [(0, .ref (gad G 29)), (1, .ref (gK G v1))] := hl
  refine lv_iconst (v := (0 : Int32)) hx hb dX3_write_0 rfl ?_
  refine lv_istore_n (lv' := [(2, .int (0 : Int32)), (0, .ref (gad G 29)), (1, .ref (gK G v1))]) hx hb dX3_write_1 rfl hl (by decide) rfl (fun ls hl => ?_)
  obtain ⟨e10, q11, h⟩ := bd_o h
  refine l_X3_write_L1 C hr v1 n (0 : Int32) s0 e10 q11 ?_ H locs ls B (lv_sub hl [1, 2, 0] rfl)
  intro H locs ls B hl
  obtain rfl := ret1 h
  exact r_vret C B hr dX3_write_25
def rm_X3_writeNumber : Room := { frames := 1, cells := 0, slots := 0, locals := 21 }
