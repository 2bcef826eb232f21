/-! PURE 24: film, judge -/
theorem CHok.cg0 {k : Nat} {s s' : ST} {t : TB} (h : CHok k s t) (e4 : s'.1 4 = s.1 4) (e9 : s'.1 9 = s.1 9) (e18 : s'.1 18 = s.1 18) (e19 : s'.1 19 = s.1 19) (e20 : s'.1 20 = s.1 20) (e21 : s'.1 21 = s.1 21) (f6 : s'.2.1 6 = s.2.1 6) (f7 : s'.2.1 7 = s.2.1 7) (f16 : s'.2.1 16 = s.2.1 16) (g : s'.2.2 0 = s.2.2 0) : CHok k s' t := by
  obtain ⟨ch, c1, c2, c3, c4⟩ := h
  refine ⟨ch, c1, by rw [e4]; exact c2, ?_, ?_⟩
  · unfold RKc RanksOK MB10 at c3 ⊢
    rw [e9, f6, f7, g, e20, e21]
    exact c3
  · unfold SPc SpellOK at c4 ⊢
    rw [e18, e19, f16]
    exact c4
/-- rows changed, the rest kept -/
theorem Inv.rows {k : Nat} {s s' u u' : ST} (h : Inv k s u) (e1 : s'.1 = s.1) (e2 : ∀ p, p < 11 ∨ 14 < p → s'.2.1 p = s.2.1 p) (e3 : s'.2.2 = s.2.2) (f1 : u'.1 = u.1) (f2 : ∀ p, p < 3 ∨ 4 < p → u'.2.1 p = u.2.1 p) (hr : RWok s' u') : Inv k s' u' := by
  obtain ⟨t, h1, h2, h3, h4, h5, h6, h7⟩ := h
  exact ⟨t, h1, h2.cg (by rw [e1]) (by rw [e1]) (by rw [e1]) (e2 _ (by omega)) (e2 _ (by omega)) (e2 _ (by omega)), h3.cg (by rw [f1]) (by rw [f1]) (by rw [f1]) (f2 _ (by omega)) (f2 _ (by omega)) (f2 _ (by omega)), h4.cg0 (by rw [e1]) (by rw [e1]) (by rw [e1]) (by rw [e1]) (by rw [e1]) (by rw [e1]) (e2 _ (by omega)) (e2 _ (by omega)) (e2 _ (by omega)) (by rw [e3]), h5.cg (by rw [e1]) (by rw [e1]) (by rw [e1]) (by rw [e1]) (e2 _ (by omega)) (e2 _ (by omega)) (e2 _ (by omega)) (by rw [f1]) (f2 _ (by omega)), h6.cg (by rw [e1]) (e2 _ (by omega)) (by rw [f1]) (f2 _ (by omega)), hr⟩
theorem film_X {N w x m : Nat} {s : ST} {t : TB} (hN : 50 < N) (hR : RanksOK s t) (hn : s.1 1 = nI (tN t)) (hO : OKT t) (hw : w < 4) (hm : x + m ≤ 2 ^ tN t) (h40 : m ≤ 40) : ∀ r, r < 3 → X6_film_L1 (nI m) (nI r) (nI w) (nI x) N (nI 0) s = some (sA s (11 + r) (fl (s.2.1 (11 + r)) (fun j => nI (rw4 t w (x + j))) m)) := by
  have p8 := hO.p8
  refine case_of ?_ ?_ ?_
  · have h := loop0 (F := fun j i (y : ST) => X6_film_L1 (nI m) (nI 0) (nI w) (nI x) j (nI i) y) (t := sA s 11 (fl (s.2.1 11) (fun j => nI (rw4 t w (x + j))) m)) m (fun i => sA s 11 (fl (s.2.1 11) (fun j => nI (rw4 t w (x + j))) i)) (fun j i hi => by
        show X6_film_L1_b (nI m) (nI 0) (nI w) (nI x) (X6_film_L1 (nI m) (nI 0) (nI w) (nI x) j) (nI i) _ = _
        unfold X6_film_L1_b
        have hR' : RanksOK (sA s 11 (fl (s.2.1 11) (fun j => nI (rw4 t w (x + j))) i)) t := hR
        rw [if_neg (by rw [nI_lep (by omega) (by omega)]; omega), rw3_0, nI_add, X2_of_v hR' hn hO hw (by omega), bd_s, inb_t (show i < 40 by omega) (by omega), gd_t]
        simp only [nm_u, nI_clamp (show i < 2 ^ 31 by omega), nI_1, st_AA, if_true, sA_sA]
        rw [← fl_u (s.2.1 11) (fun j => nI (rw4 t w (x + j))) i]) (fun j => by
        show X6_film_L1_b (nI m) (nI 0) (nI w) (nI x) (X6_film_L1 (nI m) (nI 0) (nI w) (nI x) j) (nI m) _ = _
        unfold X6_film_L1_b
        rw [if_pos (by rw [nI_lep (by omega) (by omega)]; exact Nat.le_refl _)]) (k := N) (by omega)
    rw [fl_0, sA_id] at h
    exact h
  · have h := loop0 (F := fun j i (y : ST) => X6_film_L1 (nI m) (nI 1) (nI w) (nI x) j (nI i) y) (t := sA s 12 (fl (s.2.1 12) (fun j => nI (rw4 t w (x + j))) m)) m (fun i => sA s 12 (fl (s.2.1 12) (fun j => nI (rw4 t w (x + j))) i)) (fun j i hi => by
        show X6_film_L1_b (nI m) (nI 1) (nI w) (nI x) (X6_film_L1 (nI m) (nI 1) (nI w) (nI x) j) (nI i) _ = _
        unfold X6_film_L1_b
        have hR' : RanksOK (sA s 12 (fl (s.2.1 12) (fun j => nI (rw4 t w (x + j))) i)) t := hR
        rw [if_neg (by rw [nI_lep (by omega) (by omega)]; omega), rw3_1, nI_add, X2_of_v hR' hn hO hw (by omega), bd_s, inb_t (show i < 40 by omega) (by omega), gd_t]
        simp only [nm_u, nI_clamp (show i < 2 ^ 31 by omega), nI_1, st_AA, if_true, sA_sA]
        rw [← fl_u (s.2.1 12) (fun j => nI (rw4 t w (x + j))) i]) (fun j => by
        show X6_film_L1_b (nI m) (nI 1) (nI w) (nI x) (X6_film_L1 (nI m) (nI 1) (nI w) (nI x) j) (nI m) _ = _
        unfold X6_film_L1_b
        rw [if_pos (by rw [nI_lep (by omega) (by omega)]; exact Nat.le_refl _)]) (k := N) (by omega)
    rw [fl_0, sA_id] at h
    exact h
  · have h := loop0 (F := fun j i (y : ST) => X6_film_L1 (nI m) (nI 2) (nI w) (nI x) j (nI i) y) (t := sA s 13 (fl (s.2.1 13) (fun j => nI (rw4 t w (x + j))) m)) m (fun i => sA s 13 (fl (s.2.1 13) (fun j => nI (rw4 t w (x + j))) i)) (fun j i hi => by
        show X6_film_L1_b (nI m) (nI 2) (nI w) (nI x) (X6_film_L1 (nI m) (nI 2) (nI w) (nI x) j) (nI i) _ = _
        unfold X6_film_L1_b
        have hR' : RanksOK (sA s 13 (fl (s.2.1 13) (fun j => nI (rw4 t w (x + j))) i)) t := hR
        rw [if_neg (by rw [nI_lep (by omega) (by omega)]; omega), rw3_2, nI_add, X2_of_v hR' hn hO hw (by omega), bd_s, inb_t (show i < 40 by omega) (by omega), gd_t]
        simp only [nm_u, nI_clamp (show i < 2 ^ 31 by omega), nI_1, st_AA, if_true, sA_sA]
        rw [← fl_u (s.2.1 13) (fun j => nI (rw4 t w (x + j))) i]) (fun j => by
        show X6_film_L1_b (nI m) (nI 2) (nI w) (nI x) (X6_film_L1 (nI m) (nI 2) (nI w) (nI x) j) (nI m) _ = _
        unfold X6_film_L1_b
        rw [if_pos (by rw [nI_lep (by omega) (by omega)]; exact Nat.le_refl _)]) (k := N) (by omega)
    rw [fl_0, sA_id] at h
    exact h
theorem film_M {N r x m n : Nat} {s : ST} {f : Nat → Nat} (hN : 50 < N) (h8 : n ≤ 8) (hr : r < 3) (hs : s.2.1 3 r = nI m) (hf : ∀ y, y < 2 ^ n → s.2.1 10 y = nI (f y)) (hm : x + m ≤ 2 ^ n) (h40 : m ≤ 40) : X7_film_L1 (nI r) (nI x) N (nI 0) s = some (sA s 4 (blk (s.2.1 4) (fun j => nI (f (x + j))) r m)) := by
  have p8 := pow8 h8
  have h := loop0 (F := fun j i (y : ST) => X7_film_L1 (nI r) (nI x) j (nI i) y) (t := sA s 4 (blk (s.2.1 4) (fun j => nI (f (x + j))) r m)) m (fun i => sA s 4 (blk (s.2.1 4) (fun j => nI (f (x + j))) r i)) (fun j i hi => by
      show X7_film_L1_b (nI r) (nI x) (X7_film_L1 (nI r) (nI x) j) (nI i) _ = _
      unfold X7_film_L1_b
      have e3 : (sA s 4 (blk (s.2.1 4) (fun j => nI (f (x + j))) r i)).2.1 3 r = nI m := hs
      have e10 : (sA s 4 (blk (s.2.1 4) (fun j => nI (f (x + j))) r i)).2.1 10 (x + i) = nI (f (x + i)) := hf _ (by omega)
      rw [inb_t (show r < 3 from hr) (by omega), gd_t, nI_clamp (by omega), e3, if_neg (by rw [nI_lep (by omega) (by omega)]; omega), n40, nI_add, nI_add, inb_t (show x + i < 256 by omega) (by omega), gd_t, inb_t (show 40 * r + i < 120 by omega) (by omega), gd_t, nI_clamp (show x + i < 2 ^ 31 by omega), e10]
      simp only [nm_u, nI_clamp (show 40 * r + i < 2 ^ 31 by omega), nI_1, st_AA, if_true, sA_sA]
      rw [← blk_u (s.2.1 4) (fun j => nI (f (x + j))) r i]) (fun j => by
      show X7_film_L1_b (nI r) (nI x) (X7_film_L1 (nI r) (nI x) j) (nI m) _ = _
      unfold X7_film_L1_b
      have e3 : (sA s 4 (blk (s.2.1 4) (fun j => nI (f (x + j))) r m)).2.1 3 r = nI m := hs
      rw [inb_t (show r < 3 from hr) (by omega), gd_t, nI_clamp (by omega), e3, if_pos (by rw [nI_lep (by omega) (by omega)]; exact Nat.le_refl _)]) (k := N) (by omega)
  rw [blk_0, sA_id] at h
  exact h
theorem min_if {n x l : Nat} (h8 : n ≤ 8) (hx : x < 2 ^ n) (hl : l ≤ 40) : (if (nI (2 ^ n - 1) - nI x) + (1 : Int32) < nI l then (nI (2 ^ n - 1) - nI x) + (1 : Int32) else nI l) = nI (min (2 ^ n - x) l) := by
  have p8 := pow8 h8
  rw [pk_sub (by omega), nI_1, show 2 ^ n - 1 - x + 1 = 2 ^ n - x by omega]
  by_cases c : 2 ^ n - x < l
  · rw [if_pos (by rw [nI_ltp (by omega) (by omega)]; exact c), Nat.min_eq_left (by omega)]
  · rw [if_neg (by rw [nI_ltp (by omega) (by omega)]; exact c), Nat.min_eq_right (by omega)]
theorem case_film {k N : Nat} {s u : ST} (h : Inv k s u) (hk : k < 512) (hN : 300 < N) (v1 v2 v3 v4 : Int32) : ∃ r s' u', X6_film N s v1 v2 v3 v4 = some (r, s') ∧ X7_film N u v1 v2 v3 v4 = some (r, u') ∧ Inv (k + 1) s' u' := by
  obtain ⟨t, s', hO, hX, hU, e, hR, hX', hSc, hI⟩ := h.sides hk hN
  have p8 := hO.p8
  have h8 := hO.1.2
  have hp := Nat.two_pow_pos (tN t)
  unfold X6_film X7_film
  rw [(isRow_2 v1).1, (isRow_2 v1).2, bd_s, bd_s]
  refine bc (b := inR v1 3) (fun q => ⟨_, _, _, by rw [ib_f q], by rw [ib_f q], h.mono⟩) fun q1 => ?_
  rw [ib_t q1, ib_t q1, X6_isSide_v, X7_isSide_v, bd_s, bd_s]
  refine bc (b := inR v2 4) (fun q => ⟨_, _, _, by rw [ib_f q], by rw [ib_f q], h.mono⟩) fun q2 => ?_
  rw [ib_t q2, ib_t q2, (isSet_2 hO hX hU v3).1, (isSet_2 hO hX hU v3).2, bd_s, bd_s]
  refine bc (b := inR v3 (2 ^ tN t)) (fun q => ⟨_, _, _, by rw [ib_f q], by rw [ib_f q], h.mono⟩) fun q3 => ?_
  have e7 : X7_in v4 (0 : Int32) (40 : Int32) = some (bI (inR v4 41)) := X7_inR (n := 41) (by omega) (by omega)
  rw [ib_t q3, ib_t q3, e7, bd_s]
  by_cases c : inR v4 41 = true
  · obtain ⟨r, hr, rfl⟩ := inR_t q1 (by omega)
    obtain ⟨w, hw, rfl⟩ := inR_t q2 (by omega)
    obtain ⟨x, hx, rfl⟩ := inR_t q3 (by omega)
    obtain ⟨l, hl, rfl⟩ := inR_t c (by omega)
    obtain ⟨u', eu, su, lu⟩ := X7_lay_v hN hU hO hw
    have hU' := hU.scM su (by omega)
    have hm : x + min (2 ^ tN t - x) l ≤ 2 ^ tN t := by omega
    have h40 : min (2 ^ tN t - x) l ≤ 40 := by omega
    rw [if_neg (by rw [l0, nI_ltp (by omega) (by omega)]; omega), if_pos (by rw [l40, nI_lep (by omega) (by omega)]; omega), ib_t c, e, bd_s, X4_all_v hX'.1 h8, bd_s, eu, bd_s, X7_all_v hU'.1 h8, bd_s]
    simp only [nm_u, min_if h8 hx (show l ≤ 40 by omega)]
    rw [inb_t (show r < 3 from hr) (by omega)]
    simp only [gd_t, nI_clamp (show r < 2 ^ 31 by omega)]
    generalize min (2 ^ tN t - x) l = m at hm h40
    have fm := film_M (N := N) (s := sA u' 3 (upd (u'.2.1 3) r (nI m))) (by omega) h8 hr (by rw [st_AA, if_pos rfl, upd_q, if_pos rfl]) (fun y hy => (lu y hy).1) hm h40
    rw [l0, film_X (by omega) hR hX'.1 hO hw hm h40 r hr, bd_s, fm, bd_s]
    refine ⟨nI m, _, _, rfl, some_fst ?_, (hI u' su).rows rfl (fun p hp => ?_) rfl rfl (fun p hp => ?_) ?_⟩
    · rw [st_AA, if_neg (by omega), st_AA, if_pos rfl, upd_q, if_pos rfl]
    · rw [st_AA, if_neg (by omega), st_AA, if_neg (by omega)]
    · rw [st_AA, if_neg (by omega), st_AA, if_neg (by omega)]
    · obtain ⟨t2, -, -, -, -, -, -, h7⟩ := hI u' su
      refine h7.set (r := r) (z := m) (fun j => nI (rw4 t w (x + j))) hr h40 (fun q hq => ?_) (fun j hj => ?_) (fun q hq e => ?_) (fun q hq => ?_) (fun j hj => ?_) (fun p hp => ?_)
      · have e14 : (sA s' (11 + r) (fl (s'.2.1 (11 + r)) (fun j => nI (rw4 t w (x + j))) m)).2.1 14 = s'.2.1 14 := by rw [st_AA, if_neg (by omega)]
        rw [st_AA, if_pos rfl, upd_q, e14]
      · rw [st_AA, if_neg (by omega), st_AA, if_pos rfl, fl_in hj]
      · rw [st_AA, if_neg (by omega), st_AA, if_neg (by omega)]
      · rw [st_AA, if_neg (by omega), st_AA, if_pos rfl, upd_q]
      · rw [st_AA, if_pos rfl, blk_in hj]
      · rw [st_AA, if_pos rfl, blk_out h40 hp]; rfl
  · have c' : inR v4 41 = false := by simpa using c
    have d : ¬ (0 ≤ v4.toInt ∧ v4.toInt < 41) := of_decide_eq_false c'
    rw [ib_f c']
    by_cases c1 : v4.toInt < 0
    · rw [if_pos (by rw [lt0_iff]; exact c1)]
      exact ⟨_, _, _, rfl, rfl, h.mono⟩
    · rw [if_neg (by rw [lt0_iff]; exact c1), if_neg (by rw [l40, len_iff (by omega)]; omega)]
      exact ⟨_, _, _, rfl, rfl, h.mono⟩
theorem sum_sub {w x : Nat} {z : Nat} : nI w + nI x = nI (w + x) := nI_add w x
theorem judge_X {w x : Nat} {s : ST} {t : TB} (hR : RanksOK s t) (hn : s.1 1 = nI (tN t)) (hO : OKT t) (hw : w < 4) (hx : x < 2 ^ tN t) (z : Nat) (hz : z ≤ 40) : ∀ r, r < 3 → s.2.1 14 r = nI z → ∀ k i, i < z → X6_judge_L1 s (nI r) (nI w) (nI x) (k + 1) (nI i) = if (!decide (x + i < 2 ^ tN t) || !decide (s.2.1 (11 + r) i = nI (rw4 t w (x + i)))) = true then some (Sum.inl (nI i, s)) else X6_judge_L1 s (nI r) (nI w) (nI x) k (nI (i + 1)) := by
  have p8 := hO.p8
  refine case_of ?_ ?_ ?_
  · intro h14 k i hi
    show X6_judge_L1_b s (nI 0) (nI w) (nI x) (X6_judge_L1 s (nI 0) (nI w) (nI x) k) (nI i) = _
    unfold X6_judge_L1_b
    rw [inb_t (show 0 < 3 by omega) (by omega), gd_t, nI_clamp (by omega), h14, if_neg (by rw [nI_lep (by omega) (by omega)]; omega), nI_add, X4_isSet_v hn hO.1.2, bd_s, inR_nI (by omega)]
    by_cases c : x + i < 2 ^ tN t
    · rw [ib_t (decide_eq_true c), rw3_0, inb_t (show i < 40 by omega) (by omega), gd_t, X2_of_v hR hn hO hw c, bd_s, nI_clamp (by omega), decide_eq_true c]
      show _ = if (!true || !decide (s.2.1 11 i = nI (rw4 t w (x + i)))) = true then _ else _
      by_cases d : s.2.1 11 i = nI (rw4 t w (x + i))
      · rw [if_pos d, decide_eq_true d, nm_u, nI_1]; rfl
      · rw [if_neg d, decide_eq_false d]; rfl
    · rw [ib_f (decide_eq_false c), decide_eq_false c]; rfl
  · intro h14 k i hi
    show X6_judge_L1_b s (nI 1) (nI w) (nI x) (X6_judge_L1 s (nI 1) (nI w) (nI x) k) (nI i) = _
    unfold X6_judge_L1_b
    rw [inb_t (show 1 < 3 by omega) (by omega), gd_t, nI_clamp (by omega), h14, if_neg (by rw [nI_lep (by omega) (by omega)]; omega), nI_add, X4_isSet_v hn hO.1.2, bd_s, inR_nI (by omega)]
    by_cases c : x + i < 2 ^ tN t
    · rw [ib_t (decide_eq_true c), rw3_1, inb_t (show i < 40 by omega) (by omega), gd_t, X2_of_v hR hn hO hw c, bd_s, nI_clamp (by omega), decide_eq_true c]
      show _ = if (!true || !decide (s.2.1 12 i = nI (rw4 t w (x + i)))) = true then _ else _
      by_cases d : s.2.1 12 i = nI (rw4 t w (x + i))
      · rw [if_pos d, decide_eq_true d, nm_u, nI_1]; rfl
      · rw [if_neg d, decide_eq_false d]; rfl
    · rw [ib_f (decide_eq_false c), decide_eq_false c]; rfl
  · intro h14 k i hi
    show X6_judge_L1_b s (nI 2) (nI w) (nI x) (X6_judge_L1 s (nI 2) (nI w) (nI x) k) (nI i) = _
    unfold X6_judge_L1_b
    rw [inb_t (show 2 < 3 by omega) (by omega), gd_t, nI_clamp (by omega), h14, if_neg (by rw [nI_lep (by omega) (by omega)]; omega), nI_add, X4_isSet_v hn hO.1.2, bd_s, inR_nI (by omega)]
    by_cases c : x + i < 2 ^ tN t
    · rw [ib_t (decide_eq_true c), rw3_2, inb_t (show i < 40 by omega) (by omega), gd_t, X2_of_v hR hn hO hw c, bd_s, nI_clamp (by omega), decide_eq_true c]
      show _ = if (!true || !decide (s.2.1 13 i = nI (rw4 t w (x + i)))) = true then _ else _
      by_cases d : s.2.1 13 i = nI (rw4 t w (x + i))
      · rw [if_pos d, decide_eq_true d, nm_u, nI_1]; rfl
      · rw [if_neg d, decide_eq_false d]; rfl
    · rw [ib_f (decide_eq_false c), decide_eq_false c]; rfl
theorem case_judge {k N : Nat} {s u : ST} (h : Inv k s u) (hk : k < 512) (hN : 300 < N) (v1 v2 v3 : Int32) : ∃ r s' u', X6_judge N s v1 v2 v3 = some (r, s') ∧ X7_judge N u v1 v2 v3 = some (r, u') ∧ Inv (k + 1) s' u' := by
  obtain ⟨t, s', hO, hX, hU, e, hR, hX', hSc, hI⟩ := h.sides hk hN
  have p8 := hO.p8
  have h8 := hO.1.2
  have hp := Nat.two_pow_pos (tN t)
  unfold X6_judge X7_judge
  rw [(isRow_2 v1).1, (isRow_2 v1).2, bd_s, bd_s]
  refine bc (b := inR v1 3) (fun q => ⟨_, _, _, by rw [ib_f q], by rw [ib_f q], h.mono⟩) fun q1 => ?_
  rw [ib_t q1, ib_t q1, X6_isSide_v, X7_isSide_v, bd_s, bd_s]
  refine bc (b := inR v2 4) (fun q => ⟨_, _, _, by rw [ib_f q], by rw [ib_f q], h.mono⟩) fun q2 => ?_
  rw [ib_t q2, ib_t q2, (isSet_2 hO hX hU v3).1, (isSet_2 hO hX hU v3).2, bd_s, bd_s]
  refine bc (b := inR v3 (2 ^ tN t)) (fun q => ⟨_, _, _, by rw [ib_f q], by rw [ib_f q], h.mono⟩) fun q3 => ?_
  obtain ⟨r, hr, rfl⟩ := inR_t q1 (by omega)
  obtain ⟨w, hw, rfl⟩ := inR_t q2 (by omega)
  obtain ⟨x, hx, rfl⟩ := inR_t q3 (by omega)
  obtain ⟨t2, -, -, -, -, -, -, h7⟩ := id h
  obtain ⟨b, eb, g1, g2, g3⟩ := isThere_v h7 hr
  rw [ib_t q3, ib_t q3, eb, bd_s, inb_t (show r < 3 from hr) (by omega), gd_t, nI_clamp (by omega)]
  cases b with
  | false =>
    rw [ib_f rfl, if_neg (show ¬ 0 ≤ u.2.1 3 r from fun z => by cases g1.mpr z)]
    exact ⟨_, _, _, rfl, rfl, h.mono⟩
  | true =>
    obtain ⟨u', eu, su, lu⟩ := X7_lay_v hN hU hO hw
    have hU' := hU.scM su (by omega)
    obtain ⟨t3, -, -, -, -, -, -, h7'⟩ := hI u' su
    obtain ⟨z, z1, z2, z3, z4⟩ := g3 rfl
    have y2 : s'.2.1 14 r = nI z := by rw [hSc.2 14 (by omega) (by omega)]; exact z2
    have y3 : u'.2.1 3 r = nI z := by rw [su.2 3 (by omega)]; exact z3
    have y4 : ∀ j, j < z → s'.2.1 (11 + r) j = u'.2.1 4 (40 * r + j) := fun j hj => by
      rw [hSc.2 (11 + r) (by omega) (by omega), su.2 4 (by omega)]; exact z4 j hj
    rw [ib_t rfl, if_pos (show 0 ≤ u.2.1 3 r from g1.mp rfl), e, bd_s, eu, bd_s]
    have ss := loopSearch_eq (F := fun j i => X6_judge_L1 s' (nI r) (nI w) (nI x) j (nI i)) (G := fun j i => X7_judge_L1 u' (nI r) (nI x) j (nI i)) z (fun i => !decide (x + i < 2 ^ tN t) || !decide (s'.2.1 (11 + r) i = nI (rw4 t w (x + i)))) (fun i => Sum.inl (nI i, s')) (Sum.inr ()) (fun i => Sum.inl (nI i, u')) (Sum.inr ()) (fun j i hi => judge_X hR hX'.1 hO hw hx z z1 r hr y2 j i hi) (fun j => by
        show X6_judge_L1_b s' (nI r) (nI w) (nI x) (X6_judge_L1 s' (nI r) (nI w) (nI x) j) (nI z) = _
        unfold X6_judge_L1_b
        rw [inb_t (show r < 3 from hr) (by omega), gd_t, nI_clamp (by omega), y2, if_pos (by rw [nI_lep (by omega) (by omega)]; exact Nat.le_refl _)]) (fun j i hi => by
        show X7_judge_L1_b u' (nI r) (nI x) (X7_judge_L1 u' (nI r) (nI x) j) (nI i) = _
        unfold X7_judge_L1_b
        rw [inb_t (show r < 3 from hr) (by omega), gd_t, nI_clamp (by omega), y3, if_neg (by rw [nI_lep (by omega) (by omega)]; omega), X7_all_v hU'.1 h8, bd_s, nI_add]
        by_cases c : x + i < 2 ^ tN t
        · rw [if_neg (by rw [nI_ltp (by omega) (by omega)]; omega), n40, nI_add, inb_t (show 40 * r + i < 120 by omega) (by omega), gd_t, inb_t (show x + i < 256 by omega) (by omega), gd_t, nI_clamp (by omega), nI_clamp (by omega), (lu _ c).1, ← y4 i hi, decide_eq_true c]
          by_cases d : s'.2.1 (11 + r) i = nI (rw4 t w (x + i))
          · rw [if_pos d, decide_eq_true d, nm_u, nI_1]; rfl
          · rw [if_neg d, decide_eq_false d]; rfl
        · rw [if_pos (by rw [nI_ltp (by omega) (by omega)]; omega), decide_eq_false c]; rfl) (fun j => by
        show X7_judge_L1_b u' (nI r) (nI x) (X7_judge_L1 u' (nI r) (nI x) j) (nI z) = _
        unfold X7_judge_L1_b
        rw [inb_t (show r < 3 from hr) (by omega), gd_t, nI_clamp (by omega), y3, if_pos (by rw [nI_lep (by omega) (by omega)]; exact Nat.le_refl _)]) (k := N) (by omega)
    rw [l0]
    rcases ss with ⟨i, -, g1, g2⟩ | ⟨g1, g2⟩
    · rw [g1, g2, bd_s, bd_s]
      exact ⟨_, _, _, rfl, rfl, hI u' su⟩
    · rw [g1, g2, bd_s, bd_s]
      simp only [sm]
      rw [y2, y3]
      exact ⟨_, _, _, rfl, rfl, hI u' su⟩
