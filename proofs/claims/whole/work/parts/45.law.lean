/-! THE LAW's loop, and its start: two new objects, then call by call (open in I: what ties the two sides together) -/
def sX0 : ST := ((fun k => if k = 1 then 1 else if k = 5 then 1 else if k = 9 then (-1) else if k = 17 then (-1) else if k = 19 then (-1) else 0), (fun k => if k = 14 then upd (upd (upd (fun _ => 0) 0 (-1 : Int32)) 1 (-1 : Int32)) 2 (-1 : Int32) else fun _ => 0), fun _ _ => 0)
def sM0 : ST := ((fun k => if k = 0 then 1 else 0), (fun k => if k = 3 then upd (upd (upd (fun _ => 0) 0 (-1 : Int32)) 1 (-1 : Int32)) 2 (-1 : Int32) else fun _ => 0), fun _ _ => 0)
theorem ld_nodup {A : Nat → Prop} {w : va_W} (h : va_D A w) : (w.map (fun q => q.1)).Nodup := by
  unfold List.Nodup
  rw [List.pairwise_iff_getElem]
  intro i j hi hj hij hx
  rw [List.getElem_map, List.getElem_map] at hx
  rw [List.length_map] at hi hj
  have := h.1 i j w[i] w[j] (List.getElem?_eq_getElem hi) (List.getElem?_eq_getElem hj) hx
  omega
theorem ld_of {A : Nat → Prop} {w : va_W} (h : (w.map (fun q => q.1)).Nodup) (hA : ∀ q ∈ w.map (fun q => q.1), A q) : va_D A w := by
  refine ⟨fun i j p q hp hq e => ?_, fun k q hq => hA _ (List.mem_map.mpr ⟨q, List.mem_of_getElem? hq, rfl⟩)⟩
  obtain ⟨hi, ei⟩ := List.getElem?_eq_some_iff.mp hp
  obtain ⟨hj, ej⟩ := List.getElem?_eq_some_iff.mp hq
  unfold List.Nodup at h
  rw [List.pairwise_iff_getElem] at h
  rcases Nat.lt_trichotomy i j with g | g | g
  · refine absurd ?_ (h i j (by rw [List.length_map]; exact hi) (by rw [List.length_map]; exact hj) g)
    rw [List.getElem_map, List.getElem_map, ei, ej]; exact e
  · exact g
  · refine absurd ?_ (h j i (by rw [List.length_map]; exact hj) (by rw [List.length_map]; exact hi) g)
    rw [List.getElem_map, List.getElem_map, ei, ej]; exact e.symm
theorem law_in {L i : Nat} (hL : L ≤ 3072) (hi : i ≤ L) (h : ¬ (nI L - 6 < nI i)) : i + 6 ≤ L := by
  rw [Int32.lt_iff_toInt_lt, show (6 : Int32) = nI 6 from rfl, pk_sub_toInt (by omega) (by omega), nI_toInt (by omega)] at h
  omega
set_option maxRecDepth 100000 in
set_option maxHeartbeats 4000000 in
theorem law_loop {p : Program} {e : Env} {s : State} {m : MethodId} {below : List Frame} {meth : Method} {c : Code} {GX GM : GT} {b L : Nat} {xs : Nat → Int32} (C : LC p s m meth c #[Value.ref b] b L xs) (F : LF GX GM s) (hL : L ≤ 3072) (n : Nat) (I : Nat → ST → ST → Prop) (hmono : ∀ k σ τ, I k σ τ → I (k + 1) σ τ) (hs : ∀ k, k < 512 → scAll n (I k) (I (k + 1))) :
    ∀ (f k : Nat) (σ τ : ST), L < 6 * k + f → 6 * k ≤ L → I k σ τ → LK GX GM p e s m #[Value.ref b] below meth c (lw_Z below #[Value.ref b] s) b (6 * k) 18 σ τ := by
  have hx := C.1
  have hb := C.2.1
  have hlocks := C.2.2.2.2.2.2.2.1
  have hr := C.2.2.2.2.2.2.2.2
  intro f
  induction f with
  | zero => intro k σ τ h1 h2; omega
  | succ f ih =>
    intro k σ τ h1 h2 hI H locs ls B hl
    have hbA : ¬ (fun q : Nat => s.heap.size ≤ q) b := Nat.not_le.mpr C.2.2.2.2.2.2.1
    refine lv_iload_n hx hb dL_law_18 rfl (lv_at hl 3 rfl) ?_
    refine lv_aload_n hx hb dL_law_19 rfl (lv_at hl 0 rfl) ?_
    refine va_slen hx hb C.2.2.2.2.2.1 C.2.2.2.2.2.2.1 hbA B.2.2 dL_law_20 ?_
    refine lv_bipush (v := (6 : Int32)) hx hb dL_law_21 rfl ?_
    refine lv_isub hx hb dL_law_23 ?_
    refine lv_icmp_gt (tgt := 1540) hx hb dL_law_24 (by decide) (fun q => ?_) (fun q => ?_)
    · refine lv_iconst (v := (1 : Int32)) hx hb dL_law_1540 rfl ?_
      refine va_forget (fun q hq => B.2.2.2.2 q hq) ?_
      refine W.widen (k := 600000) (n := 7302250) (Nat.le_of_ble_eq_true rfl) (Nat.le_of_ble_eq_true rfl) ?_
      exact lw_ret hx hb hr hlocks dL_law_1541
    · have hi : 6 * k + 6 ≤ L := law_in hL h2 q
      refine lc_sw (n := n) (I := I k) C F hL hi hI (I (k + 1)) (hmono k) (hs k (by omega)) (fun σ' τ' hI' => ?_) H locs ls B hl
      intro H locs ls B hl
      refine lv_iinc (v := nI (6 * (k + 1))) (lv' := [(3, .int (nI (6 * (k + 1)))), (0, .ref b), (1, .ref (gad GX 0)), (2, .ref (gad GM 0))]) hx hb dL_law_1534 hl (k := 3) rfl (nI_p6 (6 * k)).symm (by decide) rfl (fun ls hl => ?_)
      refine lv_goto (tgt := 18) hx hb dL_law_1537 (by decide) ?_
      exact ih (k + 1) σ' τ' (by omega) (by omega) hI' H locs ls B (lv_sub hl [1, 2, 3, 0] rfl)
theorem wl_cX6 : Cond.code yX6_init cX6_init 1 none ∈ Wd := Wd_mem 80 (by decide +kernel) (by decide +kernel)
theorem wl_iX6 : Cond.initialized yX6_init.cls ∈ Wd := Wd_mem 61 (by decide +kernel) (by decide +kernel)
theorem wl_cX7 : Cond.code yX7_init cX7_init 1 none ∈ Wd := Wd_mem 852 (by decide +kernel) (by decide +kernel)
theorem wl_iX7 : Cond.initialized yX7_init.cls ∈ Wd := Wd_mem 68 (by decide +kernel) (by decide +kernel)
theorem arr_of {s : State} {args : Array Value} {ty : FieldType} (h : (Cond.arrayClass ty).before args s = true) : ∃ cA : ClassId, ArrOfT s cA ty ∧ s.vm.findClass ("[" ++ ty.toString) = some cA := by
  obtain ⟨cA, kA, comp, h1, h2, h3⟩ := Cond.arrayClass_spec h
  exact ⟨cA, fun n z => ⟨(fun k h => by cases h), kA, h2, comp, h3⟩, h1⟩
set_option maxRecDepth 100000 in
set_option maxHeartbeats 16000000 in
theorem whole_open {p : Program} {e : Env} {s : State} {m : MethodId} {below : List Frame} {meth : Method} {c : Code} (l : Launch) {b L : Nat} {xs : Nat → Int32} (hL : L ≤ 3072) (C0 : lw_At p s m meth c b L xs) (n : Nat) (I : Nat → ST → ST → Prop) (hmono : ∀ k σ τ, I k σ τ → I (k + 1) σ τ) (hs : ∀ k, k < 512 → scAll n (I k) (I (k + 1))) (hI0 : I 0 sX0 sM0) : W p l e room_1 s m #[Value.ref b] below meth c s.heap [] 0 0 (lw_Z below #[Value.ref b] s) (entryFrame m ([Value.ref b] : List Value).toArray 4) := by
  obtain ⟨hx, hb, hr, hml, hown, hts, hX, hbl, hlocks, hgv⟩ := id C0
  have hw : ∀ w ∈ Wd, w.before #[Value.ref b] s = true := fun w h => hts w (Wd_tbl h)
  have hA : ∀ q : Nat, s.heap.size ≤ q → (fun q : Nat => s.heap.size ≤ q) q := fun _ h => h
  obtain ⟨c0, iS0, hKn0⟩ := u_known (C := RX0) (T := TX0) (N := 4) (n := 4) hw in_X0 (hts (.instantiable RX0 4) (by decide +kernel))
  obtain ⟨c1, iS1, hKn1⟩ := u_known (C := RX1) (T := TX1) (N := 2) (n := 2) hw in_X1 (hts (.instantiable RX1 2) (by decide +kernel))
  obtain ⟨c2, iS2, hKn2⟩ := u_known (C := RX2) (T := TX2) (N := 7) (n := 7) hw in_X2 (hts (.instantiable RX2 7) (by decide +kernel))
  obtain ⟨c3, iS3, hKn3⟩ := u_known (C := RX3) (T := TX3) (N := 3) (n := 3) hw in_X3 (hts (.instantiable RX3 3) (by decide +kernel))
  obtain ⟨c4, iS4, hKn4⟩ := u_known (C := RX4) (T := TX4) (N := 7) (n := 7) hw in_X4 (hts (.instantiable RX4 7) (by decide +kernel))
  obtain ⟨c5, iS5, hKn5⟩ := u_known (C := RX5) (T := TX5) (N := 8) (n := 8) hw in_X5 (hts (.instantiable RX5 8) (by decide +kernel))
  obtain ⟨c6, iS6, hKn6⟩ := u_known (C := RX6) (T := TX6) (N := 9) (n := 9) hw in_X6 (hts (.instantiable RX6 9) (by decide +kernel))
  obtain ⟨c7, iS7, hKn7⟩ := u_known (C := RX7) (T := TX7) (N := 29) (n := 29) hw in_X7 (hts (.instantiable RX7 29) (by decide +kernel))
  obtain ⟨dC, dI, hKc⟩ : ∃ (dC : Nat → ClassId) (dI : Nat → Nat → Nat), ∀ (k : Nat) (q : vw_C), vwCl[k]? = some q → u_Kn s q.1 q.2.1 q.2.2 (dC k) (dI k) := by
    refine ⟨fun k => if k = 0 then c0 else if k = 1 then c1 else if k = 2 then c2 else if k = 3 then c3 else if k = 4 then c4 else if k = 5 then c5 else if k = 6 then c6 else c7, fun k => if k = 0 then iS0 else if k = 1 then iS1 else if k = 2 then iS2 else if k = 3 then iS3 else if k = 4 then iS4 else if k = 5 then iS5 else if k = 6 then iS6 else iS7, ?_⟩
    intro k q hq
    match k, hq with
    | 0, hq => cases hq; exact hKn0
    | 1, hq => cases hq; exact hKn1
    | 2, hq => cases hq; exact hKn2
    | 3, hq => cases hq; exact hKn3
    | 4, hq => cases hq; exact hKn4
    | 5, hq => cases hq; exact hKn5
    | 6, hq => cases hq; exact hKn6
    | 7, hq => cases hq; exact hKn7
    | k + 8, hq => simp [vwCl] at hq
  obtain ⟨a0, hr0, hf0⟩ := arr_of (ty := .int) (hts (.arrayClass .int) (by decide +kernel))
  obtain ⟨a1, hr1, hf1⟩ := arr_of (ty := .long) (hts (.arrayClass .long) (by decide +kernel))
  obtain ⟨a2, hr2, hf2⟩ := arr_of (ty := .char) (hts (.arrayClass .char) (by decide +kernel))
  obtain ⟨a3, hr3, hf3⟩ := arr_of (ty := .boolean) (hts (.arrayClass .boolean) (by decide +kernel))
  obtain ⟨a4, hr4, hf4⟩ : ∃ cA : ClassId, ArrOfT s cA (.array .int) ∧ s.vm.findClass ("[" ++ (FieldType.array .int).toString) = some cA := by
    obtain ⟨comp, cA, kA, h1, h2, h3, h4⟩ := Cond.arrayOver_specA (t := .int) (hts (.arrayOver (.array .int)) (by decide +kernel))
    exact ⟨cA, fun n z => ⟨(fun k h => by cases h), kA, h2, comp, h3⟩, h4⟩
  obtain ⟨K, V, tL, hEnv⟩ := env_of hts hgv
  obtain ⟨cy, hcy⟩ : ∃ cy : Nat → ClassId, cy = (fun k => if k = 0 then a0 else if k = 1 then a1 else if k = 2 then a2 else if k = 3 then a3 else a4) := ⟨_, rfl⟩
  obtain ⟨G0, hG0⟩ : ∃ G0 : GT, G0 = (l, (dC, dI), (fun _ => 0), (fun _ => False), cy, K, V, tL) := ⟨_, rfl⟩
  have hK : va_K (gD G0) vwCl (tys G0) s := by
    subst hG0
    refine ⟨hKc, fun k q hq => ?_⟩
    match k, hq with
    | 0, hq => cases hq; rw [hcy]; exact ⟨hr0, hf0⟩
    | 1, hq => cases hq; rw [hcy]; exact ⟨hr1, hf1⟩
    | 2, hq => cases hq; rw [hcy]; exact ⟨hr2, hf2⟩
    | 3, hq => cases hq; rw [hcy]; exact ⟨hr3, hf3⟩
    | 4, hq => cases hq; rw [hcy]; exact ⟨hr4, hf4⟩
    | k + 5, hq => simp [tys] at hq
  have hNest : NestI s := ⟨fun q hq => va_Nw.of rfl (hts _ ((by decide +kernel : ∀ q ∈ nest_I, Cond.methodLinkNest q.1 q.2.1 q.2.2 "RoadLinks" ∈ lw_tbl) q hq)), hts (.arrayOver (.array .int)) (by decide +kernel)⟩
  have hP : va_P (gD G0) vwCl [] s.heap := fun k q h => by simp at h
  have hD : va_D (fun q : Nat => s.heap.size ≤ q) [] := ⟨fun i j p q h => by simp at h, fun k q h => by simp at h⟩
  have hS : va_S (fun q : Nat => s.heap.size ≤ q) s.heap s.heap [] := va_S.rf
  have hfix : CallFix p m c cL_law 4 s #[Value.ref b] Wd RL := ⟨hx, hb, hml, hown, hw⟩
  have hl := lv_entry ([.ref b]) (n := 4) (Nat.le_of_ble_eq_true rfl)
  rw [lg_entry_eq]
  generalize (lg_sl ([.ref b]) ++ List.replicate (4 - (lg_sl ([.ref b])).length) Slot.unset).toArray = ls at hl ⊢
  have hl : lv_has ls 4 [(0, .ref b)] := hl
  have el : l = G0.1 := by rw [hG0]
  rw [el]
  refine va_new (cl := vwCl) (ci := 6) (fs := [.null, .null, .int 0, .null, .null, .null, .null, .null, .null]) (C := RX6) (T := TX6) (N := 9) hx hb hw in_X6 tyX6 tyX6_ok hown (hts (.classLink RL 7 RX6) (by decide +kernel)) (hts (.instantiable RX6 9) (by decide +kernel)) (hts (.initialized RX6) (by decide +kernel)) hK hP hD hS hA rfl (fun j hj => by rcases (show j = 0 ∨ j = 1 ∨ j = 2 ∨ j = 3 ∨ j = 4 ∨ j = 5 ∨ j = 6 ∨ j = 7 ∨ j = 8 by omega) with rfl | rfl | rfl | rfl | rfl | rfl | rfl | rfl | rfl <;> rfl) (Nat.le_of_ble_eq_true rfl) (Nat.le_of_ble_eq_true rfl) dL_law_0 (fun q0 H hP hD hS => ?_)
  refine lv_dup hx hb dL_law_3 rfl ?_
  have B : HI G0 (fun q : Nat => s.heap.size ≤ q) ([] ++ [(q0, .inr (6, [.null, .null, .int 0, .null, .null, .null, .null, .null, .null]))]) s H [] := ⟨hP, hD, hS⟩
  have hP9 := hP.sub (ws' := [(q0, .inr (6, [.null, .null, .int 0, .null, .null, .null, .null, .null, .null]))]) [0] rfl
  have hD9 := hD.sub (ws' := [(q0, .inr (6, [.null, .null, .int 0, .null, .null, .null, .null, .null, .null]))]) [0] (by decide) rfl
  refine ri_back (rest := [.ref q0]) (w := []) hA B (va_runI (g := F0 m 4 ls [.ref q0, .ref q0]) (As := []) (rest := [.ref q0]) hfix (k_X6 G0 q0 H.size) (cwI 0 hw (Wd_gi wl_cX6) rfl rfl rfl (hts _ (Wd_tbl wl_iX6)) (hts (.methodLink RL 9 yX6_init) (by decide +kernel)) (hts (.instanceMethod yX6_init) (by decide +kernel)) rfl (by decide +kernel) ⟨Nat.le_of_ble_eq_true rfl, Nat.le_of_ble_eq_true rfl⟩) ⟨conI_blind, fun U hU hW => ⟨rfl, by rw [hU], by rw [hU]; exact hP9, va_K.moved hW.alike hK, hD9.weaken (fun _ _ _ _ => trivial), hNest.warm hW⟩⟩ rfl rfl hl.1 rfl (lv_room (Nat.le_of_ble_eq_true rfl)) dL_law_4 ⟨Nat.le_of_ble_eq_true rfl, Nat.le_of_ble_eq_true rfl⟩) (fun w9 H locs hw9 B => ?_)
  obtain ⟨q1, q2, q3, q4, q5, q6, q7, q8, q9, q10, q11, q12, q13, q14, q15, q16, q17, q18, q19, q20, q21, q22, q23, q24, q25, q26, q27, q28, q29, q30, rfl⟩ := hw9
  refine lv_astore_n (lv' := [(1, .ref q0), (0, .ref b)]) hx hb dL_law_7 rfl hl (by decide) rfl (fun ls hl => ?_)
  obtain ⟨hP, hD, hS⟩ := B
  have hP : va_P (gD G0) vwCl [(q0, .inr (6, [.ref q1, .ref q5, .int (0 : Int32), .ref q9, .ref q18, .ref q22, .ref q26, .ref q27, .ref q29])), (q1, .inr (4, [.int (1 : Int32), .int (0 : Int32), .int (0 : Int32), .int (0 : Int32), .ref q2, .ref q3, .ref q4])), (q2, .inl (gcy G0 0, 8, .inl (fun _ => 0))), (q3, .inl (gcy G0 0, 8, .inl (fun _ => 0))), (q4, .inl (gcy G0 0, 8, .inl (fun _ => 0))), (q5, .inr (4, [.int (1 : Int32), .int (0 : Int32), .int (0 : Int32), .int (0 : Int32), .ref q6, .ref q7, .ref q8])), (q6, .inl (gcy G0 0, 8, .inl (fun _ => 0))), (q7, .inl (gcy G0 0, 8, .inl (fun _ => 0))), (q8, .inl (gcy G0 0, 8, .inl (fun _ => 0))), (q9, .inr (2, [.ref q10, .ref q13, .ref q16, .ref q17, .int (0 : Int32), .int (0 : Int32), .int (-1 : Int32)])), (q10, .inr (1, [.ref q11, .ref q12])), (q11, .inl (gcy G0 1, 4, .inr (.inl (fun _ => 0)))), (q12, .inl (gcy G0 1, 4, .inr (.inl (fun _ => 0)))), (q13, .inr (1, [.ref q14, .ref q15])), (q14, .inl (gcy G0 1, 4, .inr (.inl (fun _ => 0)))), (q15, .inl (gcy G0 1, 4, .inr (.inl (fun _ => 0)))), (q16, .inl (gcy G0 0, 256, .inl (fun _ => 0))), (q17, .inl (gcy G0 0, 256, .inl (fun _ => 0))), (q18, .inr (0, [.int (0 : Int32), .ref q19, .ref q20, .ref q21])), (q19, .inl (gcy G0 0, 8, .inl (fun _ => 0))), (q20, .inl (gcy G0 0, 8, .inl (fun _ => 0))), (q21, .inl (gcy G0 3, 256, .inl (fun _ => 0))), (q22, .inl (gcy G0 4, 3, .inr (.inr (.inr (.inr (fun j => if j = 0 then some q23 else if j = 1 then some q24 else if j = 2 then some q25 else none)))))), (q23, .inl (gcy G0 0, 40, .inl (fun _ => 0))), (q24, .inl (gcy G0 0, 40, .inl (fun _ => 0))), (q25, .inl (gcy G0 0, 40, .inl (fun _ => 0))), (q26, .inl (gcy G0 0, 3, .inl (upd (upd (upd (fun _ => 0) 0 (-1 : Int32)) 1 (-1 : Int32)) 2 (-1 : Int32)))), (q27, .inr (5, [.ref q28, .int (0 : Int32), .int (0 : Int32), .int (0 : Int32), .int (0 : Int32), .int (0 : Int32), .int (0 : Int32), .int (-1 : Int32)])), (q28, .inl (gcy G0 2, 120, .inl (fun _ => 0))), (q29, .inr (3, [.ref q30, .int (0 : Int32), .int (-1 : Int32)])), (q30, .inl (gcy G0 2, 800, .inl (fun _ => 0)))] H := hP
  have hD : va_D (fun q : Nat => s.heap.size ≤ q) [(q0, .inr (6, [.ref q1, .ref q5, .int (0 : Int32), .ref q9, .ref q18, .ref q22, .ref q26, .ref q27, .ref q29])), (q1, .inr (4, [.int (1 : Int32), .int (0 : Int32), .int (0 : Int32), .int (0 : Int32), .ref q2, .ref q3, .ref q4])), (q2, .inl (gcy G0 0, 8, .inl (fun _ => 0))), (q3, .inl (gcy G0 0, 8, .inl (fun _ => 0))), (q4, .inl (gcy G0 0, 8, .inl (fun _ => 0))), (q5, .inr (4, [.int (1 : Int32), .int (0 : Int32), .int (0 : Int32), .int (0 : Int32), .ref q6, .ref q7, .ref q8])), (q6, .inl (gcy G0 0, 8, .inl (fun _ => 0))), (q7, .inl (gcy G0 0, 8, .inl (fun _ => 0))), (q8, .inl (gcy G0 0, 8, .inl (fun _ => 0))), (q9, .inr (2, [.ref q10, .ref q13, .ref q16, .ref q17, .int (0 : Int32), .int (0 : Int32), .int (-1 : Int32)])), (q10, .inr (1, [.ref q11, .ref q12])), (q11, .inl (gcy G0 1, 4, .inr (.inl (fun _ => 0)))), (q12, .inl (gcy G0 1, 4, .inr (.inl (fun _ => 0)))), (q13, .inr (1, [.ref q14, .ref q15])), (q14, .inl (gcy G0 1, 4, .inr (.inl (fun _ => 0)))), (q15, .inl (gcy G0 1, 4, .inr (.inl (fun _ => 0)))), (q16, .inl (gcy G0 0, 256, .inl (fun _ => 0))), (q17, .inl (gcy G0 0, 256, .inl (fun _ => 0))), (q18, .inr (0, [.int (0 : Int32), .ref q19, .ref q20, .ref q21])), (q19, .inl (gcy G0 0, 8, .inl (fun _ => 0))), (q20, .inl (gcy G0 0, 8, .inl (fun _ => 0))), (q21, .inl (gcy G0 3, 256, .inl (fun _ => 0))), (q22, .inl (gcy G0 4, 3, .inr (.inr (.inr (.inr (fun j => if j = 0 then some q23 else if j = 1 then some q24 else if j = 2 then some q25 else none)))))), (q23, .inl (gcy G0 0, 40, .inl (fun _ => 0))), (q24, .inl (gcy G0 0, 40, .inl (fun _ => 0))), (q25, .inl (gcy G0 0, 40, .inl (fun _ => 0))), (q26, .inl (gcy G0 0, 3, .inl (upd (upd (upd (fun _ => 0) 0 (-1 : Int32)) 1 (-1 : Int32)) 2 (-1 : Int32)))), (q27, .inr (5, [.ref q28, .int (0 : Int32), .int (0 : Int32), .int (0 : Int32), .int (0 : Int32), .int (0 : Int32), .int (0 : Int32), .int (-1 : Int32)])), (q28, .inl (gcy G0 2, 120, .inl (fun _ => 0))), (q29, .inr (3, [.ref q30, .int (0 : Int32), .int (-1 : Int32)])), (q30, .inl (gcy G0 2, 800, .inl (fun _ => 0)))] := hD
  refine va_new (cl := vwCl) (ci := 7) (fs := [.int 0, .null, .int 0, .null, .int 0, .null, .null, .null, .null, .null, .int 0, .null, .null, .null, .null, .null, .null, .null, .int 0, .int 0, .int 0, .int 0, .int 0, .int 0, .int 0, .null, .int 0, .int 0, .null]) (C := RX7) (T := TX7) (N := 29) hx hb hw in_X7 tyX7 tyX7_ok hown (hts (.classLink RL 10 RX7) (by decide +kernel)) (hts (.instantiable RX7 29) (by decide +kernel)) (hts (.initialized RX7) (by decide +kernel)) hK hP hD hS hA rfl (fun j hj => by rcases (show j = 0 ∨ j = 1 ∨ j = 2 ∨ j = 3 ∨ j = 4 ∨ j = 5 ∨ j = 6 ∨ j = 7 ∨ j = 8 ∨ j = 9 ∨ j = 10 ∨ j = 11 ∨ j = 12 ∨ j = 13 ∨ j = 14 ∨ j = 15 ∨ j = 16 ∨ j = 17 ∨ j = 18 ∨ j = 19 ∨ j = 20 ∨ j = 21 ∨ j = 22 ∨ j = 23 ∨ j = 24 ∨ j = 25 ∨ j = 26 ∨ j = 27 ∨ j = 28 by omega) with rfl | rfl | rfl | rfl | rfl | rfl | rfl | rfl | rfl | rfl | rfl | rfl | rfl | rfl | rfl | rfl | rfl | rfl | rfl | rfl | rfl | rfl | rfl | rfl | rfl | rfl | rfl | rfl | rfl <;> rfl) (Nat.le_of_ble_eq_true rfl) (Nat.le_of_ble_eq_true rfl) dL_law_8 (fun m0 H hP hD hS => ?_)
  refine lv_dup hx hb dL_law_11 rfl ?_
  have B : HI G0 (fun q : Nat => s.heap.size ≤ q) ([(q0, .inr (6, [.ref q1, .ref q5, .int (0 : Int32), .ref q9, .ref q18, .ref q22, .ref q26, .ref q27, .ref q29])), (q1, .inr (4, [.int (1 : Int32), .int (0 : Int32), .int (0 : Int32), .int (0 : Int32), .ref q2, .ref q3, .ref q4])), (q2, .inl (gcy G0 0, 8, .inl (fun _ => 0))), (q3, .inl (gcy G0 0, 8, .inl (fun _ => 0))), (q4, .inl (gcy G0 0, 8, .inl (fun _ => 0))), (q5, .inr (4, [.int (1 : Int32), .int (0 : Int32), .int (0 : Int32), .int (0 : Int32), .ref q6, .ref q7, .ref q8])), (q6, .inl (gcy G0 0, 8, .inl (fun _ => 0))), (q7, .inl (gcy G0 0, 8, .inl (fun _ => 0))), (q8, .inl (gcy G0 0, 8, .inl (fun _ => 0))), (q9, .inr (2, [.ref q10, .ref q13, .ref q16, .ref q17, .int (0 : Int32), .int (0 : Int32), .int (-1 : Int32)])), (q10, .inr (1, [.ref q11, .ref q12])), (q11, .inl (gcy G0 1, 4, .inr (.inl (fun _ => 0)))), (q12, .inl (gcy G0 1, 4, .inr (.inl (fun _ => 0)))), (q13, .inr (1, [.ref q14, .ref q15])), (q14, .inl (gcy G0 1, 4, .inr (.inl (fun _ => 0)))), (q15, .inl (gcy G0 1, 4, .inr (.inl (fun _ => 0)))), (q16, .inl (gcy G0 0, 256, .inl (fun _ => 0))), (q17, .inl (gcy G0 0, 256, .inl (fun _ => 0))), (q18, .inr (0, [.int (0 : Int32), .ref q19, .ref q20, .ref q21])), (q19, .inl (gcy G0 0, 8, .inl (fun _ => 0))), (q20, .inl (gcy G0 0, 8, .inl (fun _ => 0))), (q21, .inl (gcy G0 3, 256, .inl (fun _ => 0))), (q22, .inl (gcy G0 4, 3, .inr (.inr (.inr (.inr (fun j => if j = 0 then some q23 else if j = 1 then some q24 else if j = 2 then some q25 else none)))))), (q23, .inl (gcy G0 0, 40, .inl (fun _ => 0))), (q24, .inl (gcy G0 0, 40, .inl (fun _ => 0))), (q25, .inl (gcy G0 0, 40, .inl (fun _ => 0))), (q26, .inl (gcy G0 0, 3, .inl (upd (upd (upd (fun _ => 0) 0 (-1 : Int32)) 1 (-1 : Int32)) 2 (-1 : Int32)))), (q27, .inr (5, [.ref q28, .int (0 : Int32), .int (0 : Int32), .int (0 : Int32), .int (0 : Int32), .int (0 : Int32), .int (0 : Int32), .int (-1 : Int32)])), (q28, .inl (gcy G0 2, 120, .inl (fun _ => 0))), (q29, .inr (3, [.ref q30, .int (0 : Int32), .int (-1 : Int32)])), (q30, .inl (gcy G0 2, 800, .inl (fun _ => 0)))] ++ [(m0, .inr (7, [.int 0, .null, .int 0, .null, .int 0, .null, .null, .null, .null, .null, .int 0, .null, .null, .null, .null, .null, .null, .null, .int 0, .int 0, .int 0, .int 0, .int 0, .int 0, .int 0, .null, .int 0, .int 0, .null]))]) s H locs := ⟨hP, hD, hS⟩
  have hP9 := hP.sub (ws' := [(m0, .inr (7, [.int 0, .null, .int 0, .null, .int 0, .null, .null, .null, .null, .null, .int 0, .null, .null, .null, .null, .null, .null, .null, .int 0, .int 0, .int 0, .int 0, .int 0, .int 0, .int 0, .null, .int 0, .int 0, .null]))]) [31] rfl
  have hD9 := hD.sub (ws' := [(m0, .inr (7, [.int 0, .null, .int 0, .null, .int 0, .null, .null, .null, .null, .null, .int 0, .null, .null, .null, .null, .null, .null, .null, .int 0, .int 0, .int 0, .int 0, .int 0, .int 0, .int 0, .null, .int 0, .int 0, .null]))]) [31] (by decide) rfl
  refine ri_back (rest := [.ref m0]) (w := [(q0, .inr (6, [.ref q1, .ref q5, .int (0 : Int32), .ref q9, .ref q18, .ref q22, .ref q26, .ref q27, .ref q29])), (q1, .inr (4, [.int (1 : Int32), .int (0 : Int32), .int (0 : Int32), .int (0 : Int32), .ref q2, .ref q3, .ref q4])), (q2, .inl (gcy G0 0, 8, .inl (fun _ => 0))), (q3, .inl (gcy G0 0, 8, .inl (fun _ => 0))), (q4, .inl (gcy G0 0, 8, .inl (fun _ => 0))), (q5, .inr (4, [.int (1 : Int32), .int (0 : Int32), .int (0 : Int32), .int (0 : Int32), .ref q6, .ref q7, .ref q8])), (q6, .inl (gcy G0 0, 8, .inl (fun _ => 0))), (q7, .inl (gcy G0 0, 8, .inl (fun _ => 0))), (q8, .inl (gcy G0 0, 8, .inl (fun _ => 0))), (q9, .inr (2, [.ref q10, .ref q13, .ref q16, .ref q17, .int (0 : Int32), .int (0 : Int32), .int (-1 : Int32)])), (q10, .inr (1, [.ref q11, .ref q12])), (q11, .inl (gcy G0 1, 4, .inr (.inl (fun _ => 0)))), (q12, .inl (gcy G0 1, 4, .inr (.inl (fun _ => 0)))), (q13, .inr (1, [.ref q14, .ref q15])), (q14, .inl (gcy G0 1, 4, .inr (.inl (fun _ => 0)))), (q15, .inl (gcy G0 1, 4, .inr (.inl (fun _ => 0)))), (q16, .inl (gcy G0 0, 256, .inl (fun _ => 0))), (q17, .inl (gcy G0 0, 256, .inl (fun _ => 0))), (q18, .inr (0, [.int (0 : Int32), .ref q19, .ref q20, .ref q21])), (q19, .inl (gcy G0 0, 8, .inl (fun _ => 0))), (q20, .inl (gcy G0 0, 8, .inl (fun _ => 0))), (q21, .inl (gcy G0 3, 256, .inl (fun _ => 0))), (q22, .inl (gcy G0 4, 3, .inr (.inr (.inr (.inr (fun j => if j = 0 then some q23 else if j = 1 then some q24 else if j = 2 then some q25 else none)))))), (q23, .inl (gcy G0 0, 40, .inl (fun _ => 0))), (q24, .inl (gcy G0 0, 40, .inl (fun _ => 0))), (q25, .inl (gcy G0 0, 40, .inl (fun _ => 0))), (q26, .inl (gcy G0 0, 3, .inl (upd (upd (upd (fun _ => 0) 0 (-1 : Int32)) 1 (-1 : Int32)) 2 (-1 : Int32)))), (q27, .inr (5, [.ref q28, .int (0 : Int32), .int (0 : Int32), .int (0 : Int32), .int (0 : Int32), .int (0 : Int32), .int (0 : Int32), .int (-1 : Int32)])), (q28, .inl (gcy G0 2, 120, .inl (fun _ => 0))), (q29, .inr (3, [.ref q30, .int (0 : Int32), .int (-1 : Int32)])), (q30, .inl (gcy G0 2, 800, .inl (fun _ => 0)))]) hA B (va_runI (g := F0 m 12 ls [.ref m0, .ref m0]) (As := []) (rest := [.ref m0]) hfix (k_X7 G0 m0 H.size) (cwI 0 hw (Wd_gi wl_cX7) rfl rfl rfl (hts _ (Wd_tbl wl_iX7)) (hts (.methodLink RL 12 yX7_init) (by decide +kernel)) (hts (.instanceMethod yX7_init) (by decide +kernel)) rfl (by decide +kernel) ⟨Nat.le_of_ble_eq_true rfl, Nat.le_of_ble_eq_true rfl⟩) ⟨conI_blind, fun U hU hW => ⟨rfl, by rw [hU], by rw [hU]; exact hP9, va_K.moved hW.alike hK, hD9.weaken (fun _ _ _ _ => trivial), hNest.warm hW⟩⟩ rfl rfl hl.1 rfl (lv_room (Nat.le_of_ble_eq_true rfl)) dL_law_12 ⟨Nat.le_of_ble_eq_true rfl, Nat.le_of_ble_eq_true rfl⟩) (fun w9 H locs hw9 B => ?_)
  obtain ⟨m1, m2, m3, m4, m5, m6, m7, m8, m9, m10, m11, m12, m13, m14, m15, m16, rfl⟩ := hw9
  refine lv_astore_n (lv' := [(2, .ref m0), (1, .ref q0), (0, .ref b)]) hx hb dL_law_15 rfl hl (by decide) rfl (fun ls hl => ?_)
  refine lv_iconst (v := (0 : Int32)) hx hb dL_law_16 rfl ?_
  refine lv_istore_n (lv' := [(3, .int 0), (2, .ref m0), (1, .ref q0), (0, .ref b)]) hx hb dL_law_17 rfl hl (by decide) rfl (fun ls hl => ?_)
  refine W.widen (k := 48) (n := 4750) (Nat.le_of_ble_eq_true rfl) (Nat.le_of_ble_eq_true rfl) ?_
  obtain ⟨hP, hD, hS⟩ := B
  have hN := ld_nodup hD
  have hAll := hD.2
  have hAm : ∀ q ∈ ([q0, q1, q2, q3, q4, q5, q6, q7, q8, q9, q10, q11, q12, q13, q14, q15, q16, q17, q18, q19, q20, q21, q22, q23, q24, q25, q26, q27, q28, q29, q30] : List Nat) ++ [m0, m1, m2, m3, m4, m5, m6, m7, m8, m9, m10, m11, m12, m13, m14, m15, m16], s.heap.size ≤ q := by
    intro q hq
    obtain ⟨k, hk⟩ := List.getElem?_of_mem (l := ([(q0, .inr (6, [.ref q1, .ref q5, .int (0 : Int32), .ref q9, .ref q18, .ref q22, .ref q26, .ref q27, .ref q29])), (q1, .inr (4, [.int (1 : Int32), .int (0 : Int32), .int (0 : Int32), .int (0 : Int32), .ref q2, .ref q3, .ref q4])), (q2, .inl (gcy G0 0, 8, .inl (fun _ => 0))), (q3, .inl (gcy G0 0, 8, .inl (fun _ => 0))), (q4, .inl (gcy G0 0, 8, .inl (fun _ => 0))), (q5, .inr (4, [.int (1 : Int32), .int (0 : Int32), .int (0 : Int32), .int (0 : Int32), .ref q6, .ref q7, .ref q8])), (q6, .inl (gcy G0 0, 8, .inl (fun _ => 0))), (q7, .inl (gcy G0 0, 8, .inl (fun _ => 0))), (q8, .inl (gcy G0 0, 8, .inl (fun _ => 0))), (q9, .inr (2, [.ref q10, .ref q13, .ref q16, .ref q17, .int (0 : Int32), .int (0 : Int32), .int (-1 : Int32)])), (q10, .inr (1, [.ref q11, .ref q12])), (q11, .inl (gcy G0 1, 4, .inr (.inl (fun _ => 0)))), (q12, .inl (gcy G0 1, 4, .inr (.inl (fun _ => 0)))), (q13, .inr (1, [.ref q14, .ref q15])), (q14, .inl (gcy G0 1, 4, .inr (.inl (fun _ => 0)))), (q15, .inl (gcy G0 1, 4, .inr (.inl (fun _ => 0)))), (q16, .inl (gcy G0 0, 256, .inl (fun _ => 0))), (q17, .inl (gcy G0 0, 256, .inl (fun _ => 0))), (q18, .inr (0, [.int (0 : Int32), .ref q19, .ref q20, .ref q21])), (q19, .inl (gcy G0 0, 8, .inl (fun _ => 0))), (q20, .inl (gcy G0 0, 8, .inl (fun _ => 0))), (q21, .inl (gcy G0 3, 256, .inl (fun _ => 0))), (q22, .inl (gcy G0 4, 3, .inr (.inr (.inr (.inr (fun j => if j = 0 then some q23 else if j = 1 then some q24 else if j = 2 then some q25 else none)))))), (q23, .inl (gcy G0 0, 40, .inl (fun _ => 0))), (q24, .inl (gcy G0 0, 40, .inl (fun _ => 0))), (q25, .inl (gcy G0 0, 40, .inl (fun _ => 0))), (q26, .inl (gcy G0 0, 3, .inl (upd (upd (upd (fun _ => 0) 0 (-1 : Int32)) 1 (-1 : Int32)) 2 (-1 : Int32)))), (q27, .inr (5, [.ref q28, .int (0 : Int32), .int (0 : Int32), .int (0 : Int32), .int (0 : Int32), .int (0 : Int32), .int (0 : Int32), .int (-1 : Int32)])), (q28, .inl (gcy G0 2, 120, .inl (fun _ => 0))), (q29, .inr (3, [.ref q30, .int (0 : Int32), .int (-1 : Int32)])), (q30, .inl (gcy G0 2, 800, .inl (fun _ => 0)))] ++ [(m0, .inr (7, [.int (1 : Int32), .ref m1, .int 0, .ref m2, .int 0, .ref m3, .ref m4, .ref m5, .ref m6, .ref m7, .int 0, .ref m8, .ref m9, .ref m10, .ref m11, .ref m12, .ref m13, .ref m14, .int 0, .int 0, .int 0, .int 0, .int 0, .int 0, .int 0, .ref m15, .int 0, .int 0, .ref m16])), (m1, .inl (gcy G0 0, 8, .inl (fun _ => 0))), (m2, .inl (gcy G0 0, 8, .inl (fun _ => 0))), (m3, .inl (gcy G0 0, 8, .inl (fun _ => 0))), (m4, .inl (gcy G0 0, 3, .inl (upd (upd (upd (fun _ => 0) 0 (-1 : Int32)) 1 (-1 : Int32)) 2 (-1 : Int32)))), (m5, .inl (gcy G0 0, 120, .inl (fun _ => 0))), (m6, .inl (gcy G0 0, 40, .inl (fun _ => 0))), (m7, .inl (gcy G0 0, 120, .inl (fun _ => 0))), (m8, .inl (gcy G0 0, 256, .inl (fun _ => 0))), (m9, .inl (gcy G0 3, 256, .inl (fun _ => 0))), (m10, .inl (gcy G0 3, 256, .inl (fun _ => 0))), (m11, .inl (gcy G0 0, 256, .inl (fun _ => 0))), (m12, .inl (gcy G0 0, 256, .inl (fun _ => 0))), (m13, .inl (gcy G0 0, 8, .inl (fun _ => 0))), (m14, .inl (gcy G0 3, 256, .inl (fun _ => 0))), (m15, .inl (gcy G0 0, 900, .inl (fun _ => 0))), (m16, .inl (gcy G0 0, 27, .inl (fun _ => 0)))] : va_W).map (fun q => q.1)) hq
    rw [List.getElem?_map] at hk
    cases hz : ([(q0, .inr (6, [.ref q1, .ref q5, .int (0 : Int32), .ref q9, .ref q18, .ref q22, .ref q26, .ref q27, .ref q29])), (q1, .inr (4, [.int (1 : Int32), .int (0 : Int32), .int (0 : Int32), .int (0 : Int32), .ref q2, .ref q3, .ref q4])), (q2, .inl (gcy G0 0, 8, .inl (fun _ => 0))), (q3, .inl (gcy G0 0, 8, .inl (fun _ => 0))), (q4, .inl (gcy G0 0, 8, .inl (fun _ => 0))), (q5, .inr (4, [.int (1 : Int32), .int (0 : Int32), .int (0 : Int32), .int (0 : Int32), .ref q6, .ref q7, .ref q8])), (q6, .inl (gcy G0 0, 8, .inl (fun _ => 0))), (q7, .inl (gcy G0 0, 8, .inl (fun _ => 0))), (q8, .inl (gcy G0 0, 8, .inl (fun _ => 0))), (q9, .inr (2, [.ref q10, .ref q13, .ref q16, .ref q17, .int (0 : Int32), .int (0 : Int32), .int (-1 : Int32)])), (q10, .inr (1, [.ref q11, .ref q12])), (q11, .inl (gcy G0 1, 4, .inr (.inl (fun _ => 0)))), (q12, .inl (gcy G0 1, 4, .inr (.inl (fun _ => 0)))), (q13, .inr (1, [.ref q14, .ref q15])), (q14, .inl (gcy G0 1, 4, .inr (.inl (fun _ => 0)))), (q15, .inl (gcy G0 1, 4, .inr (.inl (fun _ => 0)))), (q16, .inl (gcy G0 0, 256, .inl (fun _ => 0))), (q17, .inl (gcy G0 0, 256, .inl (fun _ => 0))), (q18, .inr (0, [.int (0 : Int32), .ref q19, .ref q20, .ref q21])), (q19, .inl (gcy G0 0, 8, .inl (fun _ => 0))), (q20, .inl (gcy G0 0, 8, .inl (fun _ => 0))), (q21, .inl (gcy G0 3, 256, .inl (fun _ => 0))), (q22, .inl (gcy G0 4, 3, .inr (.inr (.inr (.inr (fun j => if j = 0 then some q23 else if j = 1 then some q24 else if j = 2 then some q25 else none)))))), (q23, .inl (gcy G0 0, 40, .inl (fun _ => 0))), (q24, .inl (gcy G0 0, 40, .inl (fun _ => 0))), (q25, .inl (gcy G0 0, 40, .inl (fun _ => 0))), (q26, .inl (gcy G0 0, 3, .inl (upd (upd (upd (fun _ => 0) 0 (-1 : Int32)) 1 (-1 : Int32)) 2 (-1 : Int32)))), (q27, .inr (5, [.ref q28, .int (0 : Int32), .int (0 : Int32), .int (0 : Int32), .int (0 : Int32), .int (0 : Int32), .int (0 : Int32), .int (-1 : Int32)])), (q28, .inl (gcy G0 2, 120, .inl (fun _ => 0))), (q29, .inr (3, [.ref q30, .int (0 : Int32), .int (-1 : Int32)])), (q30, .inl (gcy G0 2, 800, .inl (fun _ => 0)))] ++ [(m0, .inr (7, [.int (1 : Int32), .ref m1, .int 0, .ref m2, .int 0, .ref m3, .ref m4, .ref m5, .ref m6, .ref m7, .int 0, .ref m8, .ref m9, .ref m10, .ref m11, .ref m12, .ref m13, .ref m14, .int 0, .int 0, .int 0, .int 0, .int 0, .int 0, .int 0, .ref m15, .int 0, .int 0, .ref m16])), (m1, .inl (gcy G0 0, 8, .inl (fun _ => 0))), (m2, .inl (gcy G0 0, 8, .inl (fun _ => 0))), (m3, .inl (gcy G0 0, 8, .inl (fun _ => 0))), (m4, .inl (gcy G0 0, 3, .inl (upd (upd (upd (fun _ => 0) 0 (-1 : Int32)) 1 (-1 : Int32)) 2 (-1 : Int32)))), (m5, .inl (gcy G0 0, 120, .inl (fun _ => 0))), (m6, .inl (gcy G0 0, 40, .inl (fun _ => 0))), (m7, .inl (gcy G0 0, 120, .inl (fun _ => 0))), (m8, .inl (gcy G0 0, 256, .inl (fun _ => 0))), (m9, .inl (gcy G0 3, 256, .inl (fun _ => 0))), (m10, .inl (gcy G0 3, 256, .inl (fun _ => 0))), (m11, .inl (gcy G0 0, 256, .inl (fun _ => 0))), (m12, .inl (gcy G0 0, 256, .inl (fun _ => 0))), (m13, .inl (gcy G0 0, 8, .inl (fun _ => 0))), (m14, .inl (gcy G0 3, 256, .inl (fun _ => 0))), (m15, .inl (gcy G0 0, 900, .inl (fun _ => 0))), (m16, .inl (gcy G0 0, 27, .inl (fun _ => 0)))] : va_W)[k]? with
    | none => rw [hz] at hk; cases hk
    | some z => rw [hz] at hk; cases hk; exact hAll k z hz
  have hN : (([q0, q1, q2, q3, q4, q5, q6, q7, q8, q9, q10, q11, q12, q13, q14, q15, q16, q17, q18, q19, q20, q21, q22, q23, q24, q25, q26, q27, q28, q29, q30] : List Nat) ++ [m0, m1, m2, m3, m4, m5, m6, m7, m8, m9, m10, m11, m12, m13, m14, m15, m16]).Nodup := hN
  obtain ⟨hNX, hNM, hNd⟩ := List.nodup_append.mp hN
  obtain ⟨GX, hGX⟩ : ∃ GX : GT, GX = (l, (dC, dI), (fun i => ([q0, q1, q2, q3, q4, q5, q6, q7, q8, q9, q10, q11, q12, q13, q14, q15, q16, q17, q18, q19, q20, q21, q22, q23, q24, q25, q26, q27, q28, q29, q30] : List Nat).getD i 0), (fun q => q ∈ ([q0, q1, q2, q3, q4, q5, q6, q7, q8, q9, q10, q11, q12, q13, q14, q15, q16, q17, q18, q19, q20, q21, q22, q23, q24, q25, q26, q27, q28, q29, q30] : List Nat)), cy, K, V, tL) := ⟨_, rfl⟩
  obtain ⟨GM, hGM⟩ : ∃ GM : GT, GM = (l, (dC, dI), (fun i => ([m0, m1, m2, m3, m4, m5, m6, m7, m8, m9, m10, m11, m12, m13, m14, m15, m16] : List Nat).getD i 0), (fun q => q ∈ ([m0, m1, m2, m3, m4, m5, m6, m7, m8, m9, m10, m11, m12, m13, m14, m15, m16] : List Nat)), cy, K, V, tL) := ⟨_, rfl⟩
  have F : LF GX GM s := by
    subst hGX hGM hG0
    refine ⟨rfl, rfl, rfl, fun σ => ld_of hNX (fun q hq => hq), fun τ => ld_of hNM (fun q hq => hq), fun q h1 h2 => hNd q h1 q h2 rfl, fun q hq => hAm q (List.mem_append_left _ hq), fun q hq => hAm q (List.mem_append_right _ hq), hEnv _ rfl rfl rfl (fun q hq => hAm q (List.mem_append_left _ hq)), hEnv _ rfl rfl rfl (fun q hq => hAm q (List.mem_append_right _ hq)), hK⟩
  have CC : LC p s m meth c #[Value.ref b] b L xs := ⟨hx, hb, hml, hown, hw, hX, hbl, hlocks, hr⟩
  have BB : LB GX GM sX0 sM0 s H locs := by
    subst hGX hGM hG0
    refine ⟨hP.sub [0, 1, 2, 3, 4, 5, 6, 7, 8, 9, 10, 11, 12, 13, 14, 15, 16, 17, 18, 19, 20, 21, 22, 23, 24, 25, 26, 27, 28, 29, 30] rfl, hP.sub [31, 32, 33, 34, 35, 36, 37, 38, 39, 40, 41, 42, 43, 44, 45, 46, 47] rfl, hS⟩
  have e1 : G0.1 = GX.1 := by rw [hGX, hG0]
  rw [e1]
  have ex : gad GX 0 = q0 := by rw [hGX]; rfl
  have em : gad GM 0 = m0 := by rw [hGM]; rfl
  refine law_loop CC F hL n I hmono hs (L + 1) 0 sX0 sM0 (by omega) (by omega) hI0 H locs ls BB ?_
  rw [ex, em]
  exact lv_sub hl [3, 2, 1, 0] rfl
