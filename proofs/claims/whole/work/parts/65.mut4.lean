/-! PURE 20: feed, wipe, count, image, undo -/
theorem chr_ok : ∀ c, c < 127 → ((nI c).toUInt32 % 65536).toInt32 = nI c ∧ cz (nI c) = true := by decide +kernel
theorem case_feed {k : Nat} {s u : ST} (h : Inv k s u) (v : Int32) : ∃ r s' u', X6_feed s v = some (r, s') ∧ X7_feed u v = some (r, u') ∧ Inv (k + 1) s' u' := by
  obtain ⟨t, h1, h2, h3, h4, h5, ⟨L, c, l1, l2, l3, l4⟩, h7⟩ := id h
  have e7 : X7_in v (32 : Int32) (126 : Int32) = some (bI (decide ((32 : Int) ≤ v.toInt ∧ v.toInt ≤ 126))) := X7_in_v (a := 32) (b := 126) (by omega) (by omega)
  unfold X6_feed X7_feed
  rw [e7, bd_s]
  by_cases c1 : v.toInt < 32
  · rw [if_pos (by rw [Int32.lt_iff_toInt_lt]; exact c1), ib_f (decide_eq_false (by omega))]
    exact ⟨_, _, _, rfl, rfl, h.mono⟩
  · rw [if_neg (by rw [Int32.lt_iff_toInt_lt]; exact c1)]
    by_cases c2 : v.toInt ≤ 126
    · obtain ⟨x, hx, rfl⟩ : ∃ m, m < 127 ∧ v = nI m := inR_t (n := 127) (decide_eq_true (by omega)) (by omega)
      rw [nI_toInt (by omega)] at c1 c2
      rw [if_pos (by rw [show (126 : Int32) = nI 126 from rfl, nI_lep (by omega) (by omega)]; omega), ib_t (decide_eq_true (by rw [nI_toInt (by omega)]; omega)), l2, l3]
      by_cases c3 : L = 120
      · rw [if_neg (by rw [show (120 : Int32) = nI 120 from rfl, nI_ltp (by omega) (by omega)]; omega), if_pos (by rw [c3]; rfl)]
        exact ⟨_, _, _, rfl, rfl, h.mono⟩
      · rw [if_pos (by rw [show (120 : Int32) = nI 120 from rfl, nI_ltp (by omega) (by omega)]; omega), if_neg (by rw [show (120 : Int32) = nI 120 from rfl, nI_inj (by omega) (by omega)]; exact c3), inb_t (show L < 120 by omega) (by omega), gd_t, gd_t, (chr_ok x hx).1, (chr_ok x hx).2, gd_t, nI_clamp (by omega)]
        simp only [nm_u]
        refine ⟨nI (L + 1), _, _, some_fst ?_, some_fst ?_, ?_⟩
        · show s.1 11 + (1 : Int32) = _
          rw [l2, nI_1]
        · show u.1 3 + (1 : Int32) = _
          rw [l3, nI_1]
        · refine ⟨t, h1, h2.cg rfl rfl rfl rfl rfl rfl, h3.cg rfl rfl rfl rfl rfl rfl, h4.cg rfl rfl rfl rfl rfl rfl rfl rfl rfl rfl, h5.cg rfl rfl rfl rfl rfl rfl rfl rfl rfl, ⟨L + 1, up1 c L x, by omega, ?_, ?_, fun i hi => ?_⟩, h7.cg rfl rfl rfl rfl rfl rfl⟩
          · show s.1 11 + (1 : Int32) = _
            rw [l2, nI_1]
          · show u.1 3 + (1 : Int32) = _
            rw [l3, nI_1]
          · show upd (s.2.1 15) L (nI x) i = nI (up1 c L x i) ∧ upd (u.2.1 6) L (nI x) i = nI (up1 c L x i) ∧ _
            unfold upd up1
            by_cases e : i = L
            · rw [if_pos e, if_pos e, if_pos e]
              exact ⟨rfl, rfl, by omega, by omega⟩
            · rw [if_neg e, if_neg e, if_neg e]
              exact l4 i (by omega)
    · rw [if_neg (by rw [Int32.le_iff_toInt_le]; exact c2), ib_f (decide_eq_false (by omega))]
      exact ⟨_, _, _, rfl, rfl, h.mono⟩
theorem case_wipe {k : Nat} {s u : ST} (h : Inv k s u) : ∃ r s' u', X6_wipe s = some (r, s') ∧ X7_wipe u = some (r, u') ∧ Inv (k + 1) s' u' := by
  obtain ⟨t, h1, h2, h3, h4, h5, ⟨L, c, l1, l2, l3, l4⟩, h7⟩ := id h
  unfold X6_wipe X7_wipe
  simp only [nm_u]
  rw [l2, l3]
  exact ⟨_, _, _, rfl, rfl, t, h1, h2.cg rfl rfl rfl rfl rfl rfl, h3.cg rfl rfl rfl rfl rfl rfl, h4.cg rfl rfl rfl rfl rfl rfl rfl rfl rfl rfl, h5.cg rfl rfl rfl rfl rfl rfl rfl rfl rfl, ⟨0, c, by omega, rfl, rfl, fun i hi => absurd hi (Nat.not_lt_zero i)⟩, h7.cg rfl rfl rfl rfl rfl rfl⟩
theorem countRoads_X {N : Nat} {s : ST} {t : TB} (hN : 10 < N) (hO : OKT t) (hX : XT s 1 0 t) : X4_countRoads N s = some (nI (ctr (fun i => pc (tR t i)) (tN t))) := by
  have h8 := hO.1
  have p8 := hO.p8
  unfold X4_countRoads
  have h := loop0 (F := fun j i v => X4_countRoads_L1 s j (nI i) v) (t := nI (ctr (fun i => pc (tR t i)) (tN t))) (tN t) (fun i => nI (ctr (fun i => pc (tR t i)) i)) (fun j i hi => by
      show X4_countRoads_L1_b s (X4_countRoads_L1 s j) (nI i) _ = _
      unfold X4_countRoads_L1_b
      have := (hO.2.2.2.1 i (by omega)).1
      rw [hX.1, if_neg (by rw [nI_lep (by omega) (by omega)]; omega), inb_t (show i < 8 by omega) (by omega), gd_t, nI_clamp (by omega), hX.2.2.2.1 i (by omega), J6_bit_all _ (by omega), bd_s, nI_add, ctr_s]
      simp only [nm_u, nI_1]) (fun j => by
      show X4_countRoads_L1_b s (X4_countRoads_L1 s j) (nI (tN t)) _ = _
      unfold X4_countRoads_L1_b
      rw [hX.1, if_pos (by rw [nI_lep (by omega) (by omega)]; exact Nat.le_refl _)]) (k := N) (by omega)
  have z : ∀ f : Nat → Nat, nI (ctr f 0) = nI 0 := fun _ => rfl
  rw [z] at h
  rw [l0, h, bd_s]
theorem countRoads_M {N : Nat} {s : ST} {t : TB} (hN : 10 < N) (hO : OKT t) (hX : XT s 0 0 t) : X7_count_L1 s N (nI 0) (nI 0) = some (nI (ctr (fun i => pc (tR t i)) (tN t))) := by
  have h8 := hO.1
  have p8 := hO.p8
  exact loop0 (F := fun j i v => X7_count_L1 s j (nI i) v) (t := nI (ctr (fun i => pc (tR t i)) (tN t))) (tN t) (fun i => nI (ctr (fun i => pc (tR t i)) i)) (fun j i hi => by
      show X7_count_L1_b s (X7_count_L1 s j) (nI i) _ = _
      unfold X7_count_L1_b
      have := (hO.2.2.2.1 i (by omega)).1
      rw [hX.1, if_neg (by rw [nI_lep (by omega) (by omega)]; omega), inb_t (show i < 8 by omega) (by omega), gd_t, nI_clamp (by omega), hX.2.2.2.1 i (by omega), J6_bit_all _ (by omega), bd_s, nI_add, ctr_s]
      simp only [nm_u, nI_1]) (fun j => by
      show X7_count_L1_b s (X7_count_L1 s j) (nI (tN t)) _ = _
      unfold X7_count_L1_b
      rw [hX.1, if_pos (by rw [nI_lep (by omega) (by omega)]; exact Nat.le_refl _)]) (k := N) (by omega)
theorem isThere_v {s u : ST} (h : RWok s u) {r : Nat} (hr : r < 3) : ∃ b, X6_isThere s (nI r) = some (bI b) ∧ (b = true ↔ 0 ≤ u.2.1 3 r) ∧ (b = false ↔ u.2.1 3 r < 0) ∧ (b = true → ∃ z, z ≤ 40 ∧ s.2.1 14 r = nI z ∧ u.2.1 3 r = nI z ∧ ∀ j, j < z → s.2.1 (11 + r) j = u.2.1 4 (40 * r + j)) := by
  obtain ⟨e, g⟩ := h r hr
  unfold X6_isThere
  rw [inb_t (show r < 3 from hr) (by omega), gd_t, nI_clamp (by omega)]
  rcases g with g | ⟨z, z1, z2, z3⟩
  · rw [← e, g]
    exact ⟨false, by rw [if_pos rfl]; rfl, ⟨fun q => (by cases q), fun q => absurd q (by decide)⟩, ⟨fun _ => by decide, fun _ => rfl⟩, fun q => (by cases q)⟩
  · rw [← e, z2]
    refine ⟨true, ?_, ⟨fun _ => pos_nI (by omega), fun _ => rfl⟩, ⟨fun q => (by cases q), fun q => ?_⟩, fun _ => ⟨z, z1, rfl, rfl, z3⟩⟩
    · rw [if_neg (fun q => by
        have := congrArg Int32.toInt q
        rw [nI_toInt (by omega), show (-1 : Int32).toInt = -1 from by decide] at this
        omega)]
      rfl
    · rw [l0, nI_ltp (by omega) (by omega)] at q
      omega
theorem countRows_2 {N : Nat} {s u : ST} (hN : 10 < N) (h : RWok s u) : ∃ c, X6_countRows N s = some (nI c) ∧ X7_count_L2 u N (nI 0) (nI 0) = some (nI c) := by
  have key : ∀ d i c j, i + d = 3 → d < j → ∃ c', X6_countRows_L1 s j (nI i) (nI c) = some (nI c') ∧ X7_count_L2 u j (nI i) (nI c) = some (nI c') := by
    intro d
    induction d with
    | zero =>
      intro i c j h1 h2
      obtain ⟨j, rfl⟩ : ∃ i, j = i + 1 := ⟨j - 1, by omega⟩
      have : i = 3 := by omega
      subst this
      refine ⟨c, ?_, ?_⟩
      · show X6_countRows_L1_b s (X6_countRows_L1 s j) (nI 3) _ = _
        unfold X6_countRows_L1_b
        rw [if_pos (by decide)]
      · show X7_count_L2_b u (X7_count_L2 u j) (nI 3) _ = _
        unfold X7_count_L2_b
        rw [if_pos (by decide)]
    | succ d ih =>
      intro i c j h1 h2
      obtain ⟨j, rfl⟩ : ∃ i, j = i + 1 := ⟨j - 1, by omega⟩
      obtain ⟨b, e, g1, g2, -⟩ := isThere_v h (show i < 3 by omega)
      show ∃ c', X6_countRows_L1_b s (X6_countRows_L1 s j) (nI i) (nI c) = _ ∧ X7_count_L2_b u (X7_count_L2 u j) (nI i) (nI c) = _
      unfold X6_countRows_L1_b X7_count_L2_b
      rw [if_neg (by rw [l3, nI_lep (by omega) (by omega)]; omega), if_neg (by rw [l3, nI_lep (by omega) (by omega)]; omega), e, bd_s, inb_t (show i < 3 by omega) (by omega), gd_t, nI_clamp (by omega)]
      cases b with
      | false =>
        rw [ib_f rfl, if_pos (g2.mp rfl), l0, nI_add]
        simp only [nm_u, nI_1]
        exact ih (i + 1) c j (by omega) (by omega)
      | true =>
        rw [ib_t rfl, if_neg (fun q => by cases g2.mpr q)]
        simp only [nm_u, nI_1]
        exact ih (i + 1) (c + 1) j (by omega) (by omega)
  obtain ⟨c, e1, e2⟩ := key 3 0 0 N (by omega) (by omega)
  refine ⟨c, ?_, e2⟩
  unfold X6_countRows
  rw [l0, e1, bd_s]
theorem case_count {k N : Nat} {s u : ST} (h : Inv k s u) (hN : 300 < N) (v : Int32) : ∃ r, X6_count N s v = some r ∧ X7_count N u v = some r ∧ Inv (k + 1) s u := by
  obtain ⟨t, hO, hX, hU, h4, h5, ⟨L, c, l1, l2, l3, l4⟩, h7⟩ := id h
  have p8 := hO.p8
  have hp := Nat.two_pow_pos (tN t)
  obtain ⟨cr, r1, r2⟩ := countRows_2 (N := N) (by omega) h7
  unfold X6_count X7_count
  rw [countRoads_X (by omega) hO hX, X4_all_v hX.1 hO.1.2, X7_all_v hU.1 hO.1.2, l0, countRoads_M (by omega) hO hU, r1, r2, hX.1, hX.2.1, hX.2.2.1, hU.1, hU.2.1, hU.2.2.1, l2, l3]
  simp only [bd_s, X4_weightOf_v hN hX hO (show 2 ^ tN t - 1 < 256 by omega), X7_weightOf_v hN hU hO (show 2 ^ tN t - 1 < 256 by omega)]
  have key : ∀ o : Option Int32, o ≠ none → ∃ r, o = some r ∧ o = some r ∧ Inv (k + 1) s u := fun o ho => by
    cases o with
    | none => exact absurd rfl ho
    | some r => exact ⟨r, rfl, rfl, h.mono⟩
  refine key _ ?_
  repeat' split
  all_goals exact Option.some_ne_none _
theorem acp8 : acp (0 : Int32) (0 : Int32) (8 : Int32) 8 8 = true := by decide
theorem c0 : ((0 : Int32)).toNatClampNeg = 0 := by decide
theorem c8 : ((8 : Int32)).toNatClampNeg = 8 := by decide
theorem cpy8 {f g : Nat → Int32} {i : Nat} (h : i < 8) : va_cpy f g 0 0 8 i = f i := by
  unfold va_cpy
  rw [if_pos (by omega)]
  congr 1
  omega
theorem XT_img {s : ST} {t : TB} (h : XT s 1 0 t) (hO : OKT t) : ∃ s', X4_become_5_a1 s = some s' ∧ XT s' 5 3 t ∧ (∀ c, c < 5 ∨ 8 < c → s'.1 c = s.1 c) ∧ (∀ c, c < 3 ∨ 5 < c → s'.2.1 c = s.2.1 c) ∧ s'.2.2 = s.2.2 := by
  have hK := hO.2.2.1
  unfold X4_become_5_a1
  simp only [nm_u, acp8, gd_t, c0, c8]
  refine ⟨_, rfl, ⟨h.1, h.2.1, h.2.2.1, fun i hi => ?_, fun i hi => ?_, fun j hj => ?_⟩, fun c hc => ?_, fun c hc => ?_, rfl⟩
  · show va_cpy (s.2.1 0) (s.2.1 3) 0 0 8 i = _
    rw [cpy8 hi]; exact h.2.2.2.1 i hi
  · show va_cpy (s.2.1 1) (s.2.1 4) 0 0 8 i = _
    rw [cpy8 hi]; exact h.2.2.2.2.1 i hi
  · show va_cpy (s.2.1 2) (s.2.1 5) 0 0 8 j = _
    rw [cpy8 (by omega)]; exact h.2.2.2.2.2 j hj
  · simp only [st_II, st_AI]
    rw [if_neg (by omega), if_neg (by omega), if_neg (by omega), if_neg (by omega)]
  · simp only [st_IA, st_AA]
    rw [if_neg (by omega), if_neg (by omega), if_neg (by omega)]
theorem XT_und {s : ST} {t : TB} (h : XT s 5 3 t) (hO : OKT t) : ∃ s', X4_become_a5 s = some s' ∧ XT s' 1 0 t ∧ (∀ c, c = 0 ∨ 4 < c → s'.1 c = s.1 c) ∧ (∀ c, 2 < c → s'.2.1 c = s.2.1 c) ∧ s'.2.2 = s.2.2 ∧ s'.1 4 = s.1 4 + nI 1 := by
  have hK := hO.2.2.1
  unfold X4_become_a5
  simp only [nm_u, acp8, gd_t, c0, c8]
  refine ⟨_, rfl, ⟨h.1, h.2.1, h.2.2.1, fun i hi => ?_, fun i hi => ?_, fun j hj => ?_⟩, fun c hc => ?_, fun c hc => ?_, rfl, rfl⟩
  · show va_cpy (s.2.1 3) (s.2.1 0) 0 0 8 i = _
    rw [cpy8 hi]; exact h.2.2.2.1 i hi
  · show va_cpy (s.2.1 4) (s.2.1 1) 0 0 8 i = _
    rw [cpy8 hi]; exact h.2.2.2.2.1 i hi
  · show va_cpy (s.2.1 5) (s.2.1 2) 0 0 8 j = _
    rw [cpy8 (by omega)]; exact h.2.2.2.2.2 j hj
  · simp only [st_II, st_AI]
    rw [if_neg (by omega), if_neg (by omega), if_neg (by omega), if_neg (by omega)]
  · simp only [st_IA, st_AA]
    rw [if_neg (by omega), if_neg (by omega), if_neg (by omega)]
/-- where the image's places lie -/
def img (a0 a1 a2 b : Nat → Int32) (i : Nat) : Nat → Int32 := fun j => if j < 8 ∧ j < i then a0 j else if 8 ≤ j ∧ j < 8 + i ∧ j < 16 then a1 (j - 8) else if 16 ≤ j ∧ j < 16 + i ∧ j < 24 then a2 (j - 16) else b j
theorem img_s (a0 a1 a2 b : Nat → Int32) {i : Nat} (h : i < 8) : upd (upd (upd (img a0 a1 a2 b i) i (a0 i)) (8 + i) (a1 i)) (16 + i) (a2 i) = img a0 a1 a2 b (i + 1) := funext fun j => by
  unfold upd img
  by_cases e1 : j = 16 + i
  · subst e1
    rw [if_pos rfl, if_neg (by omega), if_neg (by omega), if_pos (by omega), show 16 + i - 16 = i by omega]
  · rw [if_neg e1]
    by_cases e2 : j = 8 + i
    · subst e2
      rw [if_pos rfl, if_neg (by omega), if_pos (by omega), show 8 + i - 8 = i by omega]
    · rw [if_neg e2]
      by_cases e3 : j = i
      · subst e3; rw [if_pos rfl, if_pos (by omega)]
      · rw [if_neg e3]
        by_cases q1 : j < 8 ∧ j < i
        · rw [if_pos q1, if_pos (by omega)]
        · rw [if_neg q1, if_neg (show ¬ (j < 8 ∧ j < i + 1) by omega)]
          by_cases q2 : 8 ≤ j ∧ j < 8 + i ∧ j < 16
          · rw [if_pos q2, if_pos (by omega)]
          · rw [if_neg q2, if_neg (show ¬ (8 ≤ j ∧ j < 8 + (i + 1) ∧ j < 16) by omega)]
            by_cases q3 : 16 ≤ j ∧ j < 16 + i ∧ j < 24
            · rw [if_pos q3, if_pos (by omega)]
            · rw [if_neg q3, if_neg (by omega)]
theorem img_0 (a0 a1 a2 b : Nat → Int32) : img a0 a1 a2 b 0 = b := funext fun j => by
  unfold img
  rw [if_neg (by omega), if_neg (by omega), if_neg (by omega)]
theorem image_M {N : Nat} {s : ST} {t : TB} (hN : 10 < N) (hX : XT s 0 0 t) (hO : OKT t) : ∃ s', X7_image N s = some (nI (tN t), s') ∧ MI s' t ∧ s'.1 12 = 1 ∧ (∀ c, c ≠ 12 → s'.1 c = s.1 c) ∧ (∀ c, c ≠ 15 → s'.2.1 c = s.2.1 c) := by
  have hK := hO.2.2.1
  unfold X7_image
  rw [nm_u]
  have h := loop0 (F := fun j i (z : ST) => X7_image_L1 j (nI i) z) (t := sA (sI s 12 1) 15 (img (s.2.1 0) (s.2.1 1) (s.2.1 2) (s.2.1 15) 8)) 8 (fun i => sA (sI s 12 1) 15 (img (s.2.1 0) (s.2.1 1) (s.2.1 2) (s.2.1 15) i)) (fun j i hi => by
      show X7_image_L1_b (X7_image_L1 j) (nI i) _ = _
      unfold X7_image_L1_b
      rw [if_neg (by rw [l8, nI_lep (by omega) (by omega)]; omega), l8, show (16 : Int32) = nI 16 from rfl, nI_add, nI_add, inb_t (show i < 8 by omega) (by omega), inb_t (show i < 27 by omega) (by omega), inb_t (show 8 + i < 27 by omega) (by omega), inb_t (show 16 + i < 27 by omega) (by omega)]
      simp only [gd_t, nm_u, nI_1, nI_clamp (show i < 2 ^ 31 by omega), nI_clamp (show 8 + i < 2 ^ 31 by omega), nI_clamp (show 16 + i < 2 ^ 31 by omega), sA_sA, st_AA, if_true]
      rw [← img_s _ _ _ _ hi]
      rfl) (fun j => by
      show X7_image_L1_b (X7_image_L1 j) (nI 8) _ = _
      unfold X7_image_L1_b
      rw [if_pos (by rw [l8, nI_lep (by omega) (by omega)]; exact Nat.le_refl _)]) (k := N) (by omega)
  rw [img_0, show sA (sI s 12 1) 15 (s.2.1 15) = sI s 12 1 from sA_id (sI s 12 1) 15] at h
  rw [l0, h, bd_s, show inb (24 : Int32) 27 = true by decide, show inb (25 : Int32) 27 = true by decide, show inb (26 : Int32) 27 = true by decide]
  simp only [gd_t, nm_u, show ((24 : Int32)).toNatClampNeg = 24 by decide, show ((25 : Int32)).toNatClampNeg = 25 by decide, show ((26 : Int32)).toNatClampNeg = 26 by decide]
  refine ⟨_, some_fst hX.1, ⟨hX.1, hX.2.1, hX.2.2.1, fun i hi => ?_, fun i hi => ?_, fun j hj => ?_⟩, rfl, fun c hc => ?_, fun c hc => ?_⟩
  · show upd (upd (upd (img (s.2.1 0) (s.2.1 1) (s.2.1 2) (s.2.1 15) 8) 24 _) 25 _) 26 _ i = _
    unfold upd img
    rw [if_neg (by omega), if_neg (by omega), if_neg (by omega), if_pos (by omega)]
    exact hX.2.2.2.1 i hi
  · show upd (upd (upd (img (s.2.1 0) (s.2.1 1) (s.2.1 2) (s.2.1 15) 8) 24 _) 25 _) 26 _ (8 + i) = _
    unfold upd img
    rw [if_neg (by omega), if_neg (by omega), if_neg (by omega), if_neg (by omega), if_pos (by omega), show 8 + i - 8 = i by omega]
    exact hX.2.2.2.2.1 i hi
  · show upd (upd (upd (img (s.2.1 0) (s.2.1 1) (s.2.1 2) (s.2.1 15) 8) 24 _) 25 _) 26 _ (16 + j) = _
    unfold upd img
    rw [if_neg (by omega), if_neg (by omega), if_neg (by omega), if_neg (by omega), if_neg (by omega), if_pos (by omega), show 16 + j - 16 = j by omega]
    exact hX.2.2.2.2.2 j hj
  · simp only [st_AI, st_II]
    rw [if_neg hc]
  · simp only [st_IA, st_AA, if_neg hc]
theorem undo_M {N : Nat} {s : ST} {t : TB} (hN : 10 < N) (hM : MI s t) (hO : OKT t) (h12 : s.1 12 = 1) : ∃ s', X7_undo N s = some (nI (tN t), s') ∧ XT s' 0 0 t ∧ (∀ c, 2 < c → s'.1 c = s.1 c) ∧ (∀ c, 2 < c → s'.2.1 c = s.2.1 c) := by
  have hK := hO.2.2.1
  obtain ⟨m1, m2, m3, m4, m5, m6⟩ := hM
  unfold X7_undo
  rw [h12, if_neg (by decide)]
  have st : ∀ i, i ≤ 8 → ST := fun i _ => sA (sA (sA s 0 (fl (s.2.1 0) (s.2.1 15) i)) 1 (fl (s.2.1 1) (fun j => s.2.1 15 (8 + j)) i)) 2 (fl (s.2.1 2) (fun j => s.2.1 15 (16 + j)) i)
  have h := loop0 (F := fun j i (z : ST) => X7_undo_L1 j (nI i) z) (t := sA (sA (sA s 0 (fl (s.2.1 0) (s.2.1 15) 8)) 1 (fl (s.2.1 1) (fun j => s.2.1 15 (8 + j)) 8)) 2 (fl (s.2.1 2) (fun j => s.2.1 15 (16 + j)) 8)) 8 (fun i => sA (sA (sA s 0 (fl (s.2.1 0) (s.2.1 15) i)) 1 (fl (s.2.1 1) (fun j => s.2.1 15 (8 + j)) i)) 2 (fl (s.2.1 2) (fun j => s.2.1 15 (16 + j)) i)) (fun j i hi => by
      show X7_undo_L1_b (X7_undo_L1 j) (nI i) _ = _
      unfold X7_undo_L1_b
      rw [if_neg (by rw [l8, nI_lep (by omega) (by omega)]; omega), l8, show (16 : Int32) = nI 16 from rfl, nI_add, nI_add, inb_t (show i < 8 by omega) (by omega), inb_t (show i < 27 by omega) (by omega), inb_t (show 8 + i < 27 by omega) (by omega), inb_t (show 16 + i < 27 by omega) (by omega)]
      simp only [gd_t, nm_u, nI_1, nI_clamp (show i < 2 ^ 31 by omega), nI_clamp (show 8 + i < 2 ^ 31 by omega), nI_clamp (show 16 + i < 2 ^ 31 by omega)]
      congr 1
      have e0 := fl_u (s.2.1 0) (s.2.1 15) i
      have e1 := fl_u (s.2.1 1) (fun j => s.2.1 15 (8 + j)) i
      have e2 := fl_u (s.2.1 2) (fun j => s.2.1 15 (16 + j)) i
      refine st_eq (fun _ => rfl) (fun c => ?_) (fun _ => rfl)
      rw [← e0, ← e1, ← e2]
      simp only [st_AA]
      by_cases q2 : c = 2
      · subst q2; rfl
      · by_cases q1 : c = 1
        · subst q1; rfl
        · by_cases q0 : c = 0
          · subst q0; rfl
          · simp [q0, q1, q2]) (fun j => by
      show X7_undo_L1_b (X7_undo_L1 j) (nI 8) _ = _
      unfold X7_undo_L1_b
      rw [if_pos (by rw [l8, nI_lep (by omega) (by omega)]; exact Nat.le_refl _)]) (k := N) (by omega)
  have z : sA (sA (sA s 0 (fl (s.2.1 0) (s.2.1 15) 0)) 1 (fl (s.2.1 1) (fun j => s.2.1 15 (8 + j)) 0)) 2 (fl (s.2.1 2) (fun j => s.2.1 15 (16 + j)) 0) = s := by
    rw [fl_0, fl_0, fl_0, sA_id]
    rw [show sA s 1 (s.2.1 1) = s from sA_id s 1, sA_id]
  rw [z] at h
  rw [l0, h, bd_s, show inb (24 : Int32) 27 = true by decide, show inb (25 : Int32) 27 = true by decide, show inb (26 : Int32) 27 = true by decide]
  simp only [gd_t, nm_u, show ((24 : Int32)).toNatClampNeg = 24 by decide, show ((25 : Int32)).toNatClampNeg = 25 by decide, show ((26 : Int32)).toNatClampNeg = 26 by decide]
  refine ⟨_, some_fst m1, ⟨m1, m2, m3, fun i hi => ?_, fun i hi => ?_, fun j hj => ?_⟩, fun c hc => ?_, fun c hc => ?_⟩
  · show fl (s.2.1 0) (s.2.1 15) 8 i = _
    rw [fl_in hi]; exact m4 i hi
  · show fl (s.2.1 1) (fun j => s.2.1 15 (8 + j)) 8 i = _
    rw [fl_in hi]; exact m5 i hi
  · show fl (s.2.1 2) (fun j => s.2.1 15 (16 + j)) 8 j = _
    rw [fl_in (by omega)]; exact m6 j hj
  · simp only [st_AI, st_II]
    rw [if_neg (by omega), if_neg (by omega), if_neg (by omega)]
  · simp only [st_IA, st_AA]
    rw [if_neg (by omega), if_neg (by omega), if_neg (by omega)]
theorem case_image {k N : Nat} {s u : ST} (h : Inv k s u) (hN : 300 < N) : ∃ r s' u', X6_image s = some (r, s') ∧ X7_image N u = some (r, u') ∧ Inv (k + 1) s' u' := by
  obtain ⟨t, hO, hX, hU, h4, h5, h6, h7⟩ := id h
  obtain ⟨s1, e1, x1, p1, p2, p3⟩ := XT_img hX hO
  obtain ⟨u1, e2, m1, m2, q1, q2⟩ := image_M (N := N) (by omega) hU hO
  unfold X6_image
  rw [e1, bd_s, nm_u, e2]
  refine ⟨nI (tN t), _, _, some_fst ?_, rfl, t, hO, ?_, ?_, ?_, ?_, ?_, ?_⟩
  · show s1.1 1 = _
    rw [p1 1 (by omega)]; exact hX.1
  · exact hX.cg (p1 1 (by omega)) (p1 2 (by omega)) (p1 3 (by omega)) (p2 0 (by omega)) (p2 1 (by omega)) (p2 2 (by omega))
  · exact hU.cg (q1 0 (by omega)) (q1 1 (by omega)) (q1 2 (by omega)) (q2 0 (by omega)) (q2 1 (by omega)) (q2 2 (by omega))
  · exact h4.cg (p1 4 (by omega)) (p1 9 (by omega)) (p1 18 (by omega)) (p1 19 (by omega)) (p1 20 (by omega)) (p1 21 (by omega)) (p2 6 (by omega)) (p2 7 (by omega)) (p2 16 (by omega)) (congrFun p3 0)
  · exact Or.inr ⟨rfl, m2, t, hO, x1.cg rfl rfl rfl rfl rfl rfl, m1⟩
  · exact h6.cg (p1 11 (by omega)) (p2 15 (by omega)) (q1 3 (by omega)) (q2 6 (by omega))
  · exact h7.cg (p2 14 (by omega)) (p2 11 (by omega)) (p2 12 (by omega)) (p2 13 (by omega)) (q2 3 (by omega)) (q2 4 (by omega))
theorem case_undo {k N : Nat} {s u : ST} (h : Inv k s u) (hk : k < 512) (hN : 300 < N) : ∃ r s' u', X6_undo s = some (r, s') ∧ X7_undo N u = some (r, u') ∧ Inv (k + 1) s' u' := by
  obtain ⟨t, hO, hX, hU, h4, h5, h6, h7⟩ := id h
  rcases h5 with ⟨c1, c2⟩ | ⟨c1, c2, t', hO', hX', hM⟩
  · refine ⟨(-3 : Int32), s, u, ?_, ?_, h.mono⟩
    · unfold X6_undo
      rw [c1, if_pos rfl]
    · unfold X7_undo
      rw [c2, if_pos rfl]
  · obtain ⟨s1, e1, x1, p1, p2, p3, p4⟩ := XT_und hX' hO'
    obtain ⟨u1, e2, m1, q1, q2⟩ := undo_M (N := N) (by omega) hM hO' c2
    unfold X6_undo
    rw [c1, if_neg (by decide), e1, bd_s, e2]
    refine ⟨nI (tN t'), _, _, some_fst x1.1, rfl, h.step (d := 1) hk ⟨hO', x1, m1, p1, p2, p3, q1, q2, p4⟩ (by omega) (by omega)⟩
