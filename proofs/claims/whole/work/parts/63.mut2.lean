/-! PURE 18: road, targets, weigh, add, change, drop, set, turned -/
theorem step_R {s u : ST} {t : TB} {a x : Nat} (hO : OKT t) (hX : XT s 1 0 t) (hU : XT u 0 0 t) (hx : x < 2 ^ tN t) (hb : x.testBit a = false) : Step2 s (sI (sA s 0 (upd (s.2.1 0) a (nI x))) 4 (s.1 4 + nI 1)) u (sA u 0 (upd (u.2.1 0) a (nI x))) (tbR t (up1 (tR t) a x)) 1 := by
  obtain ⟨o1, o2, o3, o4, o5, o6⟩ := hO
  refine ⟨⟨o1, o2, o3, fun i hi => ?_, o5, o6⟩, ⟨hX.1, hX.2.1, hX.2.2.1, up1_v hX.2.2.2.1, hX.2.2.2.2.1, hX.2.2.2.2.2⟩, ⟨hU.1, hU.2.1, hU.2.2.1, up1_v hU.2.2.2.1, hU.2.2.2.2.1, hU.2.2.2.2.2⟩, fun c hc => ?_, fun c hc => ?_, rfl, fun c hc => rfl, fun c hc => ?_, rfl⟩
  · show up1 (tR t) a x i < 2 ^ tN t ∧ (up1 (tR t) a x i).testBit i = false
    unfold up1
    by_cases e : i = a
    · subst e; rw [if_pos rfl]; exact ⟨hx, hb⟩
    · rw [if_neg e]; exact o4 i hi
  · rw [st_II, if_neg (by omega)]; rfl
  · rw [st_IA, st_AA, if_neg (by omega)]
  · rw [st_AA, if_neg (by omega)]
theorem step_W {s u : ST} {t : TB} {a x : Nat} (hO : OKT t) (hX : XT s 1 0 t) (hU : XT u 0 0 t) (hx : x ≤ 99) : Step2 s (sI (sA s 1 (upd (s.2.1 1) a (nI x))) 4 (s.1 4 + nI 1)) u (sA u 1 (upd (u.2.1 1) a (nI x))) (tbW t (up1 (tW t) a x)) 1 := by
  obtain ⟨o1, o2, o3, o4, o5, o6⟩ := hO
  refine ⟨⟨o1, o2, o3, o4, fun i hi => ?_, o6⟩, ⟨hX.1, hX.2.1, hX.2.2.1, hX.2.2.2.1, up1_v hX.2.2.2.2.1, hX.2.2.2.2.2⟩, ⟨hU.1, hU.2.1, hU.2.2.1, hU.2.2.2.1, up1_v hU.2.2.2.2.1, hU.2.2.2.2.2⟩, fun c hc => ?_, fun c hc => ?_, rfl, fun c hc => rfl, fun c hc => ?_, rfl⟩
  · show up1 (tW t) a x i ≤ 99
    unfold up1
    by_cases e : i = a
    · subst e; rw [if_pos rfl]; exact hx
    · rw [if_neg e]; exact o5 i hi
  · rw [st_II, if_neg (by omega)]; rfl
  · rw [st_IA, st_AA, if_neg (by omega)]
  · rw [st_AA, if_neg (by omega)]
theorem step_F {s u : ST} {t : TB} {a x : Nat} (hO : OKT t) (hX : XT s 1 0 t) (hU : XT u 0 0 t) (hx : x < 2 ^ tN t) : Step2 s (sI (sA s 2 (upd (s.2.1 2) a (nI x))) 4 (s.1 4 + nI 1)) u (sA u 2 (upd (u.2.1 2) a (nI x))) (tbF t (tK t) (up1 (tF t) a x)) 1 := by
  obtain ⟨o1, o2, o3, o4, o5, o6⟩ := hO
  refine ⟨⟨o1, o2, o3, o4, o5, fun i hi => ?_⟩, ⟨hX.1, hX.2.1, hX.2.2.1, hX.2.2.2.1, hX.2.2.2.2.1, up1_v hX.2.2.2.2.2⟩, ⟨hU.1, hU.2.1, hU.2.2.1, hU.2.2.2.1, hU.2.2.2.2.1, up1_v hU.2.2.2.2.2⟩, fun c hc => ?_, fun c hc => ?_, rfl, fun c hc => rfl, fun c hc => ?_, rfl⟩
  · show up1 (tF t) a x i < 2 ^ tN t
    unfold up1
    by_cases e : i = a
    · subst e; rw [if_pos rfl]; exact hx
    · rw [if_neg e]; exact o6 i hi
  · rw [st_II, if_neg (by omega)]; rfl
  · rw [st_IA, st_AA, if_neg (by omega)]
  · rw [st_AA, if_neg (by omega)]
theorem neg1 : (-1 : Int32) < 0 := by decide
theorem neg2 : (-2 : Int32) < 0 := by decide
theorem neg3 : (-3 : Int32) < 0 := by decide
theorem neg4 : (-4 : Int32) < 0 := by decide
theorem pos_nI {a : Nat} (h : a < 2 ^ 31) : (0 : Int32) ≤ nI a := by rw [l0, nI_lep (by omega) h]; omega
theorem bI_nI (b : Bool) : bI b = nI b.toNat := by cases b <;> rfl
theorem or_dif2 {x e : Nat} : dif x (2 ^ e) ||| 2 ^ e = x ||| 2 ^ e := tb_ext fun i => by
  rw [Nat.testBit_or, Nat.testBit_or, dif_tb, tb_two]
  by_cases q : e = i
  · simp [q]
  · simp [q]
theorem nI_ne {a b : Nat} (ha : a < 2 ^ 31) (hb : b < 2 ^ 31) (h : a ≠ b) : nI a ≠ nI b := fun q => h (by rw [nI_inj ha hb] at q; exact q)
theorem some_fst {a b : Int32} {s : ST} (h : a = b) : some (a, s) = some (b, s) := by rw [h]
theorem road_2 {s u : ST} {t : TB} (hO : OKT t) (hX : XT s 1 0 t) (hU : XT u 0 0 t) (v1 v2 v3 : Int32) : ∃ r s' u', X6_road s v1 v2 v3 = some (r, s') ∧ X7_road u v1 v2 v3 = some (r, u') ∧ ((s' = s ∧ u' = u ∧ r < 0) ∨ (0 ≤ r ∧ ∃ t', Step2 s s' u u' t' 1)) := by
  have p8 := hO.p8
  have h8 := hO.1
  unfold X6_road X7_road
  rw [(isPost_2 hO hX hU v1).1, (isPost_2 hO hX hU v1).2, bd_s, bd_s]
  refine bc (b := inR v1 (tN t)) (fun q => ⟨_, _, _, by rw [ib_f q], by rw [ib_f q], Or.inl ⟨rfl, rfl, neg1⟩⟩) fun q1 => ?_
  rw [ib_t q1, ib_t q1, (isPost_2 hO hX hU v2).1, (isPost_2 hO hX hU v2).2, bd_s, bd_s]
  refine bc (b := inR v2 (tN t)) (fun q => ⟨_, _, _, by rw [ib_f q], by rw [ib_f q], Or.inl ⟨rfl, rfl, neg1⟩⟩) fun q2 => ?_
  obtain ⟨a, ha, rfl⟩ := inR_t q1 (by omega)
  obtain ⟨b, hb, rfl⟩ := inR_t q2 (by omega)
  rw [ib_t q2, ib_t q2, (isEither_2 v3).2, bd_s]
  have ra := hO.2.2.2.1 a (by omega)
  by_cases hv : inR v3 2 = true
  · obtain ⟨c, hc, rfl⟩ := inR_t hv (by omega)
    rw [ib_t hv]
    by_cases e : a = b
    · subst e
      refine ⟨(-3 : Int32), s, u, ?_, by rw [if_pos rfl], Or.inl ⟨rfl, rfl, neg3⟩⟩
      have : c = 0 ∨ c = 1 := by omega
      rcases this with rfl | rfl
      · rw [if_pos (show nI 0 = 0 from rfl), if_pos rfl]
      · rw [if_neg (by decide), if_pos (show nI 1 = (1 : Int32) from rfl), if_pos rfl]
    · have ne : nI a ≠ nI b := nI_ne (by omega) (by omega) e
      rw [inb_t (show a < 8 by omega) (by omega)]
      simp only [nm_u, if_neg ne, gd_t, nI_clamp (show a < 2 ^ 31 by omega), hX.2.2.2.1 a (show a < 8 by omega), hU.2.2.2.1 a (show a < 8 by omega), has_val (show tR t a < 2 ^ 31 by omega) (show b < 32 by omega), no_val (show b < 8 by omega)]
      have : c = 0 ∨ c = 1 := by omega
      rcases this with rfl | rfl
      · rw [if_pos (show nI 0 = 0 from rfl), if_neg (show ¬ nI 0 = (1 : Int32) by decide), nx_shl (by omega) (by omega)]
        unfold X4_lay
        rw [if_pos rfl, inb_t (show a < 8 by omega) (by omega), gd_t, gd_t, nI_clamp (by omega), hX.2.2.2.1 a (by omega), no_val (by omega)]
        simp only [nm_u, bd_s]
        refine ⟨_, _, _, rfl, rfl, Or.inr ⟨by rw [bI_nI]; exact pos_nI (by cases (tR t a).testBit b <;> decide), tbR t (up1 (tR t) a (dif (tR t a) (2 ^ b))), ?_⟩⟩
        rw [nx_or, Nat.zero_mul, Nat.or_zero]
        exact step_R hO hX hU (dif_lt ra.1) (by rw [dif_tb, ra.2]; rfl)
      · rw [if_neg (show ¬ nI 1 = 0 by decide), if_pos (show nI 1 = (1 : Int32) from rfl), if_pos (show nI 1 = (1 : Int32) from rfl), nx_shl (by omega) (by rw [Nat.one_mul]; exact Nat.pow_lt_pow_right (by omega) (by omega))]
        unfold X4_lay
        rw [if_neg (by decide), inb_t (show a < 8 by omega) (by omega), gd_t, gd_t, nI_clamp (by omega), hX.2.2.2.1 a (by omega), in_val (by omega)]
        simp only [nm_u, bd_s]
        refine ⟨_, _, _, rfl, rfl, Or.inr ⟨by rw [bI_nI]; exact pos_nI (by cases (tR t a).testBit b <;> decide), tbR t (up1 (tR t) a (tR t a ||| 2 ^ b)), ?_⟩⟩
        rw [nx_or, Nat.one_mul, or_dif2]
        exact step_R hO hX hU (or_two_lt ra.1 hb) (by rw [Nat.testBit_or, ra.2, tb_two]; simp [Ne.symm e])
  · have hv' : inR v3 2 = false := by simpa using hv
    refine ⟨(-2 : Int32), s, u, ?_, by rw [ib_f hv'], Or.inl ⟨rfl, rfl, neg2⟩⟩
    rw [if_neg (fun z => hv (by rw [z]; decide)), if_neg (fun z => hv (by rw [z]; decide))]
theorem case_road {k : Nat} {s u : ST} (h : Inv k s u) (hk : k < 512) (v1 v2 v3 : Int32) : ∃ r s' u', X6_road s v1 v2 v3 = some (r, s') ∧ X7_road u v1 v2 v3 = some (r, u') ∧ Inv (k + 1) s' u' := by
  obtain ⟨t, hO, hX, hU⟩ := h.tab
  obtain ⟨r, s', u', e1, e2, g⟩ := road_2 hO hX hU v1 v2 v3
  exact ⟨r, s', u', e1, e2, h.end2 hk g⟩
theorem case_isRoad {k : Nat} {s u : ST} (h : Inv k s u) (v1 v2 : Int32) : ∃ r, X6_isRoad s v1 v2 = some r ∧ X7_isRoad u v1 v2 = some r ∧ Inv (k + 1) s u := by
  obtain ⟨t, hO, hX, hU⟩ := h.tab
  have h8 := hO.1
  unfold X6_isRoad X7_isRoad
  rw [(isPost_2 hO hX hU v1).1, (isPost_2 hO hX hU v1).2, bd_s, bd_s]
  refine bc (b := inR v1 (tN t)) (fun q => ⟨_, by rw [ib_f q], by rw [ib_f q], h.mono⟩) fun q1 => ?_
  rw [ib_t q1, ib_t q1, (isPost_2 hO hX hU v2).1, (isPost_2 hO hX hU v2).2, bd_s, bd_s]
  refine bc (b := inR v2 (tN t)) (fun q => ⟨_, by rw [ib_f q], by rw [ib_f q], h.mono⟩) fun q2 => ?_
  obtain ⟨a, ha, rfl⟩ := inR_t q1 (by omega)
  rw [ib_t q2, ib_t q2, inb_t (show a < 8 by omega) (by omega), gd_t, gd_t, nI_clamp (by omega), hX.2.2.2.1 a (by omega), hU.2.2.2.1 a (by omega)]
  exact ⟨_, rfl, rfl, h.mono⟩
theorem targets_2 {s u : ST} {t : TB} (hO : OKT t) (hX : XT s 1 0 t) (hU : XT u 0 0 t) (v : Int32) : ∃ r s' u', X6_targets s v = some (r, s') ∧ X7_targets u v = some (r, u') ∧ ((s' = s ∧ u' = u ∧ r < 0) ∨ (0 ≤ r ∧ ∃ t', Step2 s s' u u' t' 1)) := by
  have p8 := hO.p8
  have h8 := hO.1
  unfold X6_targets X7_targets
  rw [(isSet_2 hO hX hU v).1, (isSet_2 hO hX hU v).2, bd_s, bd_s]
  refine bc (b := inR v (2 ^ tN t)) (fun q => ⟨_, _, _, by rw [ib_f q], by rw [ib_f q], Or.inl ⟨rfl, rfl, neg2⟩⟩) fun q => ?_
  obtain ⟨x, hx, rfl⟩ := inR_t q (by omega)
  rw [ib_t q, ib_t q, hX.2.1, hU.2.1]
  unfold X4_aim
  simp only [nm_u, bd_s]
  refine ⟨_, _, _, rfl, rfl, Or.inr ⟨pos_nI (by have := hO.2.1; omega), tbT t x, ?_⟩⟩
  obtain ⟨o1, o2, o3, o4, o5, o6⟩ := hO
  refine ⟨⟨o1, hx, o3, o4, o5, o6⟩, ⟨hX.1, rfl, hX.2.2.1, hX.2.2.2.1, hX.2.2.2.2.1, hX.2.2.2.2.2⟩, ⟨hU.1, rfl, hU.2.2.1, hU.2.2.2.1, hU.2.2.2.2.1, hU.2.2.2.2.2⟩, fun c hc => ?_, fun c hc => rfl, rfl, fun c hc => ?_, fun c hc => rfl, rfl⟩
  · rw [st_II, if_neg (by omega), st_II, if_neg (by omega)]
  · rw [st_II, if_neg (by omega)]
theorem case_targets {k : Nat} {s u : ST} (h : Inv k s u) (hk : k < 512) (v : Int32) : ∃ r s' u', X6_targets s v = some (r, s') ∧ X7_targets u v = some (r, u') ∧ Inv (k + 1) s' u' := by
  obtain ⟨t, hO, hX, hU⟩ := h.tab
  obtain ⟨r, s', u', e1, e2, g⟩ := targets_2 hO hX hU v
  exact ⟨r, s', u', e1, e2, h.end2 hk g⟩
theorem weigh_2 {s u : ST} {t : TB} (hO : OKT t) (hX : XT s 1 0 t) (hU : XT u 0 0 t) (v1 v2 : Int32) : ∃ r s' u', X6_weigh s v1 v2 = some (r, s') ∧ X7_weigh u v1 v2 = some (r, u') ∧ ((s' = s ∧ u' = u ∧ r < 0) ∨ (0 ≤ r ∧ ∃ t', Step2 s s' u u' t' 1)) := by
  have h8 := hO.1
  unfold X6_weigh X7_weigh
  rw [(isPost_2 hO hX hU v1).1, (isPost_2 hO hX hU v1).2, bd_s, bd_s]
  refine bc (b := inR v1 (tN t)) (fun q => ⟨_, _, _, by rw [ib_f q], by rw [ib_f q], Or.inl ⟨rfl, rfl, neg1⟩⟩) fun q1 => ?_
  obtain ⟨a, ha, rfl⟩ := inR_t q1 (by omega)
  have e7 : X7_in v2 (0 : Int32) (99 : Int32) = some (bI (inR v2 100)) := X7_inR (n := 100) (by omega) (by omega)
  rw [ib_t q1, ib_t q1, e7, bd_s]
  by_cases c : inR v2 100 = true
  · obtain ⟨x, hx, rfl⟩ := inR_t c (by omega)
    rw [ib_t c, if_neg (by rw [l0, nI_ltp (by omega) (by omega)]; omega), if_pos (by rw [show (99 : Int32) = nI 99 from rfl, nI_lep (by omega) (by omega)]; omega), inb_t (show a < 8 by omega) (by omega), gd_t, gd_t, nI_clamp (by omega), hX.2.2.2.2.1 a (by omega), hU.2.2.2.2.1 a (by omega)]
    unfold X4_load
    rw [inb_t (show a < 8 by omega) (by omega)]
    simp only [nm_u, bd_s, gd_t, nI_clamp (show a < 2 ^ 31 by omega)]
    refine ⟨_, _, _, rfl, rfl, Or.inr ⟨pos_nI (by have := hO.2.2.2.2.1 a (by omega); omega), _, step_W hO hX hU (by omega)⟩⟩
  · have c' : inR v2 100 = false := by simpa using c
    refine ⟨(-2 : Int32), s, u, ?_, by rw [ib_f c'], Or.inl ⟨rfl, rfl, neg2⟩⟩
    have d : ¬ (0 ≤ v2.toInt ∧ v2.toInt < 100) := of_decide_eq_false c'
    by_cases c1 : v2.toInt < 0
    · rw [if_pos (by rw [lt0_iff]; exact c1)]
    · rw [if_neg (by rw [lt0_iff]; exact c1), if_neg (by rw [show (99 : Int32) = nI 99 from rfl, len_iff (by omega)]; omega)]
theorem case_weigh {k : Nat} {s u : ST} (h : Inv k s u) (hk : k < 512) (v1 v2 : Int32) : ∃ r s' u', X6_weigh s v1 v2 = some (r, s') ∧ X7_weigh u v1 v2 = some (r, u') ∧ Inv (k + 1) s' u' := by
  obtain ⟨t, hO, hX, hU⟩ := h.tab
  obtain ⟨r, s', u', e1, e2, g⟩ := weigh_2 hO hX hU v1 v2
  exact ⟨r, s', u', e1, e2, h.end2 hk g⟩
theorem add_2 {s u : ST} {t : TB} (hO : OKT t) (hX : XT s 1 0 t) (hU : XT u 0 0 t) (v : Int32) : ∃ r s' u', X6_add s v = some (r, s') ∧ X7_add u v = some (r, u') ∧ ((s' = s ∧ u' = u ∧ r < 0) ∨ (0 ≤ r ∧ ∃ t', Step2 s s' u u' t' 1)) := by
  have p8 := hO.p8
  have h8 := hO.1
  have hK := hO.2.2.1
  unfold X6_add X7_add
  rw [(isSet_2 hO hX hU v).1, (isSet_2 hO hX hU v).2, bd_s, bd_s]
  refine bc (b := inR v (2 ^ tN t)) (fun q => ⟨_, _, _, by rw [ib_f q], by rw [ib_f q], Or.inl ⟨rfl, rfl, neg2⟩⟩) fun q => ?_
  obtain ⟨x, hx, rfl⟩ := inR_t q (by omega)
  rw [ib_t q, ib_t q, hX.2.2.1, hU.2.2.1]
  by_cases c : tK t = 8
  · rw [if_neg (by rw [l8, nI_ltp (by omega) (by omega)]; omega), if_pos (by rw [c]; rfl)]
    exact ⟨_, _, _, rfl, rfl, Or.inl ⟨rfl, rfl, neg4⟩⟩
  · have hlt : nI (tK t) < (8 : Int32) := by rw [l8, nI_ltp (by omega) (by omega)]; omega
    rw [if_pos hlt, if_neg (by rw [l8, nI_inj (by omega) (by omega)]; exact c), inb_t (show tK t < 8 by omega) (by omega), gd_t]
    unfold X4_join
    rw [hX.2.2.1, if_pos hlt, inb_t (show tK t < 8 by omega) (by omega), gd_t]
    simp only [nm_u, bd_s, nI_clamp (show tK t < 2 ^ 31 by omega)]
    refine ⟨nI (tK t), _, _, some_fst ?_, some_fst ?_, Or.inr ⟨pos_nI (by omega), tbF t (tK t + 1) (up1 (tF t) (tK t) x), ?_⟩⟩
    · show (s.1 3 + (1 : Int32)) - (1 : Int32) = _
      rw [hX.2.2.1, nI_1, nI_m1 (by omega)]; rfl
    · show (u.1 2 + (1 : Int32)) - (1 : Int32) = _
      rw [hU.2.2.1, nI_1, nI_m1 (by omega)]; rfl
    · obtain ⟨o1, o2, o3, o4, o5, o6⟩ := hO
      have vv : ∀ {a : Nat → Int32}, (∀ j, j < tK t → a j = nI (tF t j)) → ∀ j, j < tK t + 1 → upd a (tK t) (nI x) j = nI (up1 (tF t) (tK t) x j) := fun {a} ha j hj => by
        unfold upd up1
        by_cases e : j = tK t
        · rw [if_pos e, if_pos e]
        · rw [if_neg e, if_neg e]; exact ha j (by omega)
      refine ⟨⟨o1, o2, (by show tK t + 1 ≤ 8; omega), o4, o5, fun i hi => ?_⟩, ⟨hX.1, hX.2.1, ?_, hX.2.2.2.1, hX.2.2.2.2.1, vv hX.2.2.2.2.2⟩, ⟨hU.1, hU.2.1, ?_, hU.2.2.2.1, hU.2.2.2.2.1, vv hU.2.2.2.2.2⟩, fun c hc => ?_, fun c hc => ?_, rfl, fun c hc => ?_, fun c hc => ?_, ?_⟩
      · show up1 (tF t) (tK t) x i < 2 ^ tN t
        unfold up1
        by_cases e : i = tK t
        · rw [if_pos e]; exact hx
        · rw [if_neg e]; exact o6 i (by have : i < tK t + 1 := hi; omega)
      · show s.1 3 + (1 : Int32) = nI (tK t + 1)
        rw [hX.2.2.1, nI_1]
      · show u.1 2 + (1 : Int32) = nI (tK t + 1)
        rw [hU.2.2.1, nI_1]
      · rw [st_II, if_neg (by omega), st_II, if_neg (by omega)]; rfl
      · rw [st_IA, st_IA, st_AA, if_neg (by omega)]
      · rw [st_II, if_neg (by omega)]; rfl
      · rw [st_IA, st_AA, if_neg (by omega)]
      · rfl
theorem case_add {k : Nat} {s u : ST} (h : Inv k s u) (hk : k < 512) (v : Int32) : ∃ r s' u', X6_add s v = some (r, s') ∧ X7_add u v = some (r, u') ∧ Inv (k + 1) s' u' := by
  obtain ⟨t, hO, hX, hU⟩ := h.tab
  obtain ⟨r, s', u', e1, e2, g⟩ := add_2 hO hX hU v
  exact ⟨r, s', u', e1, e2, h.end2 hk g⟩
theorem case_change {k : Nat} {s u : ST} (h : Inv k s u) (hk : k < 512) (v1 v2 : Int32) : ∃ r s' u', X6_change s v1 v2 = some (r, s') ∧ X7_change u v1 v2 = some (r, u') ∧ Inv (k + 1) s' u' := by
  obtain ⟨t, hO, hX, hU⟩ := h.tab
  have p8 := hO.p8
  have hK := hO.2.2.1
  unfold X6_change X7_change
  rw [(isNumber_2 hO hX hU v1).1, (isNumber_2 hO hX hU v1).2, bd_s, bd_s]
  refine bc (b := inR v1 (tK t)) (fun q => ⟨_, _, _, by rw [ib_f q], by rw [ib_f q], h.mono⟩) fun q1 => ?_
  rw [ib_t q1, ib_t q1, (isSet_2 hO hX hU v2).1, (isSet_2 hO hX hU v2).2, bd_s, bd_s]
  refine bc (b := inR v2 (2 ^ tN t)) (fun q => ⟨_, _, _, by rw [ib_f q], by rw [ib_f q], h.mono⟩) fun q2 => ?_
  obtain ⟨a, ha, rfl⟩ := inR_t q1 (by omega)
  obtain ⟨x, hx, rfl⟩ := inR_t q2 (by omega)
  rw [ib_t q2, ib_t q2, inb_t (show a < 8 by omega) (by omega), gd_t, gd_t, nI_clamp (by omega), hX.2.2.2.2.2 a ha, hU.2.2.2.2.2 a ha]
  unfold X4_replace
  rw [inb_t (show a < 8 by omega) (by omega)]
  simp only [nm_u, bd_s, gd_t, nI_clamp (show a < 2 ^ 31 by omega)]
  exact ⟨_, _, _, rfl, rfl, h.step hk (step_F (a := a) hO hX hU hx) (by omega) (by omega)⟩
theorem case_set {k : Nat} {s u : ST} (h : Inv k s u) (v1 : Int32) : ∃ r, X6_set s v1 = some r ∧ X7_set u v1 = some r ∧ Inv (k + 1) s u := by
  obtain ⟨t, hO, hX, hU⟩ := h.tab
  have hK := hO.2.2.1
  unfold X6_set X7_set
  rw [(isNumber_2 hO hX hU v1).1, (isNumber_2 hO hX hU v1).2, bd_s, bd_s]
  refine bc (b := inR v1 (tK t)) (fun q => ⟨_, by rw [ib_f q], by rw [ib_f q], h.mono⟩) fun q1 => ?_
  obtain ⟨a, ha, rfl⟩ := inR_t q1 (by omega)
  rw [ib_t q1, ib_t q1, inb_t (show a < 8 by omega) (by omega), gd_t, gd_t, nI_clamp (by omega), hX.2.2.2.2.2 a ha, hU.2.2.2.2.2 a ha]
  exact ⟨_, rfl, rfl, h.mono⟩
