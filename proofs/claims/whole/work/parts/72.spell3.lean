/-! PURE 27: descriptions (reference); the call -/
theorem wordOf_v : ∀ k, k < 6 → X7_wordOf (nI k) = some k := by decide
theorem wordL_M {N k K : Nat} (hN : 10 < N) (hk : k < 6) : Says (fun s => X7_writesWord_L1 (nI k) N (nI 0) s) 11 14 900 K (fun _ => True) (wd k) := by
  have f := tx_facts k (by omega)
  have h := Says.loop (F := fun j i s => X7_writesWord_L1 (nI k) j (nI i) s) (p := 11) (a := 14) (M := 900) (K := K) (N := (wd k).length) (G := fun _ => True) (f := fun i => [(wd k).getD i 0]) GT_t (fun j i hi => ⟨fun s => X7_writes s ((wd k).getD i 0), sign_M, fun s _ => by
    show X7_writesWord_L1_b (nI k) (X7_writesWord_L1 (nI k) j) (nI i) s = _
    unfold X7_writesWord_L1_b
    rw [wordOf_v k hk, bd_s, txlen_v (by omega), bd_s, if_neg (by rw [nI_lep (by omega) (by omega)]; omega), bd_s, txat_v (by omega) hi, bd_s]
    simp only [nm_u, nI_1]⟩) (fun j s _ => by
    show X7_writesWord_L1_b (nI k) (X7_writesWord_L1 (nI k) j) (nI (wd k).length) s = _
    unfold X7_writesWord_L1_b
    rw [wordOf_v k hk, bd_s, txlen_v (by omega), bd_s, if_pos (by rw [nI_lep (by omega) (by omega)]; exact Nat.le_refl _)]) (k := N) (by omega)
  rw [cat_one (Nat.le_refl _), List.take_length] at h
  exact h
theorem word_M {N k : Nat} (hN : 10 < N) (hk : k < 6) : Says (fun s => X7_writesWord N s (nI k)) 11 14 900 1 (fun _ => True) ([59] ++ wd k) := by
  have h := Says.seq GT_t (sign_M (c := 59) (K := 1)) (wordL_M (N := N) (k := k) (K := 1) hN hk)
  intro s l gs ht hK hl
  obtain ⟨s', e, r⟩ := h s l gs ht hK hl
  refine ⟨s', ?_, r⟩
  show X7_writesWord N s (nI k) = _
  unfold X7_writesWord
  rw [List.length_append] at hl
  rw [ht.1, if_neg (by rw [l0, nI_lep (by omega) (by omega)]; omega), l0, ← e]
  congr 1
  funext s2
  rw [bd_some]
theorem wordM0 {N : Nat} {s : ST} (hN : 10 < N) (h : Tx s 11 14 []) : ∃ s', X7_writesWord N s (0 : Int32) = some s' ∧ Tx s' 11 14 (wd 0) ∧ Wr s s' 11 14 := by
  obtain ⟨s', e, t1, w1⟩ := wordL_M (N := N) (k := 0) (K := 0) hN (by omega) s [] trivial h (Nat.zero_le _) (by decide)
  refine ⟨s', ?_, t1, w1⟩
  unfold X7_writesWord
  rw [h.1, if_pos (by decide), l0, bd_some]
  exact e
theorem w6 : wd 6 = [59] ++ wd 1 := by decide
theorem w73 : wd 7 ++ wd 3 = [59] ++ wd 3 := by decide
theorem w8' : wd 8 = [59] ++ wd 4 := by decide
theorem w9' : wd 9 = [59] ++ wd 5 := by decide
theorem roads_M {N : Nat} {t : TB} (hN : 300 < N) (hO : OKT t) : Says (fun s => X7_spells_L1 N N (nI 0) s) 11 14 900 1 (fun s => XT s 0 0 t) (cat (fun i => cat (fun j => opt ((tR t i).testBit j) (wd 6 ++ num i ++ num j)) (tN t)) (tN t)) := by
  have h8 := hO.1
  have p8 := hO.p8
  refine Says.loop (F := fun k i s => X7_spells_L1 N k (nI i) s) (p := 11) (a := 14) (M := 900) (K := 1) (N := tN t) (G := fun s => XT s 0 0 t) (f := fun i => cat (fun j => opt ((tR t i).testBit j) (wd 6 ++ num i ++ num j)) (tN t)) GM (fun k i hi => ⟨fun s => X7_spells_L2 N (nI i) N (nI 0) s, ?_, fun s hs => ?_⟩) (fun k s hs => ?_) (k := N) (by omega)
  · have ri := (hO.2.2.2.1 i (by omega)).1
    refine Says.loop (F := fun k j s => X7_spells_L2 N (nI i) k (nI j) s) (p := 11) (a := 14) (M := 900) (K := 1) (N := tN t) (G := fun s => XT s 0 0 t) (f := fun j => opt ((tR t i).testBit j) (wd 6 ++ num i ++ num j)) GM (fun k j hj => ?_) (fun k s hs => ?_) (k := N) (by omega)
    · cases q : (tR t i).testBit j with
      | false =>
        refine ⟨fun s => some s, by rw [opt_f rfl]; exact Says.nil, fun s hs => ?_⟩
        show X7_spells_L2_b N (nI i) (X7_spells_L2 N (nI i) k) (nI j) s = _
        unfold X7_spells_L2_b
        rw [hs.1, if_neg (by rw [nI_lep (by omega) (by omega)]; omega), inb_t (show i < 8 by omega) (by omega), gd_t, nI_clamp (by omega), hs.2.2.2.1 i (by omega), X7_has_v (by omega) (by omega), bd_s, ib_f q]
        simp only [nm_u, nI_1, bd_s]
      | true =>
        refine ⟨fun s => bd (bd (X7_writesWord N s (nI 1)) fun s => X7_writesNumber s (nI i)) fun s => X7_writesNumber s (nI j), by rw [opt_t rfl, w6]; exact Says.any (Says.seq GT_t (Says.seq GT_t (word_M (by omega) (by omega)) (number_M (by omega))) (number_M (by omega))), fun s hs => ?_⟩
        show X7_spells_L2_b N (nI i) (X7_spells_L2 N (nI i) k) (nI j) s = _
        unfold X7_spells_L2_b
        rw [hs.1, if_neg (by rw [nI_lep (by omega) (by omega)]; omega), inb_t (show i < 8 by omega) (by omega), gd_t, nI_clamp (by omega), hs.2.2.2.1 i (by omega), X7_has_v (by omega) (by omega), bd_s, ib_t q]
        simp only [nm_u, nI_1, bd_bd]
        rfl
    · show X7_spells_L2_b N (nI i) (X7_spells_L2 N (nI i) k) (nI (tN t)) s = _
      unfold X7_spells_L2_b
      rw [hs.1, if_pos (by rw [nI_lep (by omega) (by omega)]; exact Nat.le_refl _)]
  · show X7_spells_L1_b N (X7_spells_L1 N k) (nI i) s = _
    unfold X7_spells_L1_b
    rw [hs.1, if_neg (by rw [nI_lep (by omega) (by omega)]; omega), l0]
    simp only [nm_u, nI_1]
  · show X7_spells_L1_b N (X7_spells_L1 N k) (nI (tN t)) s = _
    unfold X7_spells_L1_b
    rw [hs.1, if_pos (by rw [nI_lep (by omega) (by omega)]; exact Nat.le_refl _)]
/-- the tail of what p never holds of adds nothing -/
theorem cat_tail {f : Nat → List Int32} {n : Nat} : ∀ {m : Nat}, n ≤ m → (∀ i, n ≤ i → i < m → f i = []) → cat f m = cat f n
  | 0, h, _ => by rw [show n = 0 by omega]
  | m + 1, h, q => by
    by_cases e : n = m + 1
    · rw [e]
    · show cat f m ++ f m = _
      rw [cat_tail (by omega) fun i h1 h2 => q i h1 (by omega), q m (by omega) (by omega), List.append_nil]
theorem posts_M {N : Nat} {t : TB} (hN : 300 < N) (hO : OKT t) : Says (fun s => X7_spells_L3 N N (nI 0) s) 11 14 900 1 (fun s => XT s 0 0 t) (cat (fun i => opt ((tT t).testBit i) (wd 7 ++ wd 3 ++ num i)) 8) := by
  have p8 := hO.p8
  have h8 := hO.1
  have hT := hO.2.1
  rw [cat_tail h8.2 fun i h1 _ => opt_f (tb_big hT h1)]
  refine Says.loop (F := fun k i s => X7_spells_L3 N k (nI i) s) (p := 11) (a := 14) (M := 900) (K := 1) (N := tN t) (G := fun s => XT s 0 0 t) (f := fun i => opt ((tT t).testBit i) (wd 7 ++ wd 3 ++ num i)) GM (fun k i hi => ?_) (fun k s hs => ?_) (k := N) (by omega)
  · cases q : (tT t).testBit i with
    | false =>
      refine ⟨fun s => some s, by rw [opt_f rfl]; exact Says.nil, fun s hs => ?_⟩
      show X7_spells_L3_b N (X7_spells_L3 N k) (nI i) s = _
      unfold X7_spells_L3_b
      rw [hs.1, if_neg (by rw [nI_lep (by omega) (by omega)]; omega), hs.2.1, X7_has_v (by omega) (by omega), bd_s, ib_f q]
      simp only [nm_u, nI_1, bd_s]
    | true =>
      refine ⟨fun s => bd (X7_writesWord N s (nI 3)) fun s => X7_writesNumber s (nI i), by rw [opt_t rfl, w73]; exact Says.any (Says.seq GT_t (word_M (by omega) (by omega)) (number_M (by omega))), fun s hs => ?_⟩
      show X7_spells_L3_b N (X7_spells_L3 N k) (nI i) s = _
      unfold X7_spells_L3_b
      rw [hs.1, if_neg (by rw [nI_lep (by omega) (by omega)]; omega), hs.2.1, X7_has_v (by omega) (by omega), bd_s, ib_t q]
      simp only [nm_u, nI_1, bd_bd]
      rfl
  · show X7_spells_L3_b N (X7_spells_L3 N k) (nI (tN t)) s = _
    unfold X7_spells_L3_b
    rw [hs.1, if_pos (by rw [nI_lep (by omega) (by omega)]; exact Nat.le_refl _)]
theorem sets_M {N : Nat} {t : TB} (hN : 300 < N) (hO : OKT t) : Says (fun s => X7_spells_L4 N N (nI 0) s) 11 14 900 1 (fun s => XT s 0 0 t) (cat (fun j => wd 8 ++ cat (fun i => opt ((tF t j).testBit i) (num i)) 8) (tK t)) := by
  have p8 := hO.p8
  have h8 := hO.1
  have hK := hO.2.2.1
  refine Says.loop (F := fun k i s => X7_spells_L4 N k (nI i) s) (p := 11) (a := 14) (M := 900) (K := 1) (N := tK t) (G := fun s => XT s 0 0 t) (f := fun j => wd 8 ++ cat (fun i => opt ((tF t j).testBit i) (num i)) 8) GM (fun k j hj => ⟨fun s => bd (X7_writesWord N s (nI 4)) fun s => X7_spells_L5 (nI j) N (nI 0) s, ?_, fun s hs => ?_⟩) (fun k s hs => ?_) (k := N) (by omega)
  · have fj := hO.2.2.2.2.2 j hj
    rw [w8']
    refine Says.seq GM (Says.any (word_M (by omega) (by omega))) ?_
    rw [cat_tail h8.2 fun i h1 _ => opt_f (tb_big fj h1)]
    refine Says.loop (F := fun k i s => X7_spells_L5 (nI j) k (nI i) s) (p := 11) (a := 14) (M := 900) (K := 1) (N := tN t) (G := fun s => XT s 0 0 t) (f := fun i => opt ((tF t j).testBit i) (num i)) GM (fun k i hi => ?_) (fun k s hs => ?_) (k := N) (by omega)
    · cases q : (tF t j).testBit i with
      | false =>
        refine ⟨fun s => some s, by rw [opt_f rfl]; exact Says.nil, fun s hs => ?_⟩
        show X7_spells_L5_b (nI j) (X7_spells_L5 (nI j) k) (nI i) s = _
        unfold X7_spells_L5_b
        rw [hs.1, if_neg (by rw [nI_lep (by omega) (by omega)]; omega), inb_t (show j < 8 by omega) (by omega), gd_t, nI_clamp (by omega), hs.2.2.2.2.2 j hj, X7_has_v (by omega) (by omega), bd_s, ib_f q]
        simp only [nm_u, nI_1, bd_s]
      | true =>
        refine ⟨fun s => X7_writesNumber s (nI i), by rw [opt_t rfl]; exact Says.any (number_M (by omega)), fun s hs => ?_⟩
        show X7_spells_L5_b (nI j) (X7_spells_L5 (nI j) k) (nI i) s = _
        unfold X7_spells_L5_b
        rw [hs.1, if_neg (by rw [nI_lep (by omega) (by omega)]; omega), inb_t (show j < 8 by omega) (by omega), gd_t, nI_clamp (by omega), hs.2.2.2.2.2 j hj, X7_has_v (by omega) (by omega), bd_s, ib_t q]
        simp only [nm_u, nI_1]
    · show X7_spells_L5_b (nI j) (X7_spells_L5 (nI j) k) (nI (tN t)) s = _
      unfold X7_spells_L5_b
      rw [hs.1, if_pos (by rw [nI_lep (by omega) (by omega)]; exact Nat.le_refl _)]
  · show X7_spells_L4_b N (X7_spells_L4 N k) (nI j) s = _
    unfold X7_spells_L4_b
    rw [hs.2.2.1, if_neg (by rw [nI_lep (by omega) (by omega)]; omega), l0]
    simp only [nm_u, nI_1, bd_bd]
    rfl
  · show X7_spells_L4_b N (X7_spells_L4 N k) (nI (tK t)) s = _
    unfold X7_spells_L4_b
    rw [hs.2.2.1, if_pos (by rw [nI_lep (by omega) (by omega)]; exact Nat.le_refl _)]
theorem weights_M {N : Nat} {t : TB} (hN : 300 < N) (hO : OKT t) : Says (fun s => X7_spells_L6 N N (nI 0) s) 11 14 900 1 (fun s => XT s 0 0 t) (cat (fun i => opt (decide (tW t i ≠ 0)) (wd 9 ++ num i ++ num (tW t i))) (tN t)) := by
  have h8 := hO.1
  refine Says.loop (F := fun k i s => X7_spells_L6 N k (nI i) s) (p := 11) (a := 14) (M := 900) (K := 1) (N := tN t) (G := fun s => XT s 0 0 t) (f := fun i => opt (decide (tW t i ≠ 0)) (wd 9 ++ num i ++ num (tW t i))) GM (fun k i hi => ?_) (fun k s hs => ?_) (k := N) (by omega)
  · have wi := hO.2.2.2.2.1 i (by omega)
    by_cases q : tW t i = 0
    · refine ⟨fun s => some s, by rw [opt_f (decide_eq_false (by simpa using q))]; exact Says.nil, fun s hs => ?_⟩
      show X7_spells_L6_b N (X7_spells_L6 N k) (nI i) s = _
      unfold X7_spells_L6_b
      rw [hs.1, if_neg (by rw [nI_lep (by omega) (by omega)]; omega), inb_t (show i < 8 by omega) (by omega), gd_t, nI_clamp (by omega), hs.2.2.2.2.1 i (by omega), if_pos (by rw [l0, nI_lep (by omega) (by omega)]; omega)]
      simp only [nm_u, nI_1, bd_s]
    · have last : Says (fun s => X7_writesNumber s (s.2.1 1 i)) 11 14 900 1 (fun s => XT s 0 0 t) (num (tW t i)) := (Says.any (number_M (x := tW t i) (by omega))).cg fun s hs => by rw [hs.2.2.2.2.1 i (by omega)]
      refine ⟨fun s => bd (bd (X7_writesWord N s (nI 5)) fun s => X7_writesNumber s (nI i)) fun s => X7_writesNumber s (s.2.1 1 i), by rw [opt_t (decide_eq_true q), w9']; exact Says.seq GM (Says.any (Says.seq GT_t (word_M (by omega) (by omega)) (number_M (by omega)))) last, fun s hs => ?_⟩
      show X7_spells_L6_b N (X7_spells_L6 N k) (nI i) s = _
      unfold X7_spells_L6_b
      rw [hs.1, if_neg (by rw [nI_lep (by omega) (by omega)]; omega), inb_t (show i < 8 by omega) (by omega), gd_t, nI_clamp (by omega), hs.2.2.2.2.1 i (by omega), if_neg (by rw [l0, nI_lep (by omega) (by omega)]; omega)]
      simp only [nm_u, nI_1, bd_bd, gd_t]
      rfl
  · show X7_spells_L6_b N (X7_spells_L6 N k) (nI (tN t)) s = _
    unfold X7_spells_L6_b
    rw [hs.1, if_pos (by rw [nI_lep (by omega) (by omega)]; exact Nat.le_refl _)]
theorem X7_spells_v {N : Nat} {s : ST} {t : TB} (hN : 300 < N) (hX : XT s 0 0 t) (hO : OKT t) : ∃ s', X7_spells N s = some s' ∧ Tx s' 11 14 (spl t) ∧ Wr s s' 11 14 := by
  have h8 := hO.1
  unfold X7_spells
  rw [nm_u]
  have w00 : Wr s (sI s 11 0) 11 14 := ⟨fun c hc => by rw [st_II, if_neg hc], fun _ _ => rfl, rfl⟩
  have t0 : Tx (sI s 11 0) 11 14 [] := ⟨rfl, fun i hi => absurd hi (Nat.not_lt_zero i)⟩
  obtain ⟨s1, e1, t1, w1⟩ := wordM0 (N := N) (by omega) t0
  have g1 : XT s1 0 0 t := GM _ _ (GM _ _ hX w00) w1
  have nn : Says (fun s => X7_writesNumber s (s.1 0)) 11 14 900 1 (fun s => XT s 0 0 t) (num (tN t)) := (Says.any (number_M (x := tN t) (by omega))).cg fun s hs => by rw [hs.1]
  have all := Says.seq GM (Says.seq GM (Says.seq GM (Says.seq GM nn (roads_M hN hO)) (posts_M hN hO)) (sets_M hN hO)) (weights_M hN hO)
  have hl := spl_len hO
  have d0 : (wd 0).length = 5 := by decide
  obtain ⟨s', e, t2, w2⟩ := all s1 (wd 0) g1 t1 (by omega) (by
    unfold spl at hl
    simp only [List.length_append] at hl ⊢
    omega)
  refine ⟨s', ?_, ?_, (w00.tr w1).tr w2⟩
  · rw [e1, bd_s]
    simp only [bd_bd] at e
    simp only [bd_some]
    exact e
  · unfold spl
    simp only [List.append_assoc] at t2 ⊢
    exact t2
theorem case_spelled {k N : Nat} {s u : ST} (h : Inv k s u) (hk : k < 512) (hN : 300 < N) (v : Int32) : ∃ r s' u', X6_spelled N s v = some (r, s') ∧ X7_spelled N u v = some (r, u') ∧ Inv (k + 1) s' u' := by
  obtain ⟨t, hO, hX, hU, ⟨ch, c1, c2, c3, c4⟩, h5, h6, h7⟩ := id h
  obtain ⟨s', e1, ok, q1, q2, q3, sp⟩ := X3_spell_v (N := N) hN hX hO c2 (by omega) c4
  obtain ⟨u', e2, tx, w⟩ := X7_spells_v (N := N) hN hU hO
  have hl := spl_len hO
  have inv : Inv (k + 1) s' u' := by
    refine ⟨t, hO, hX.cg (q1 1 (by omega) (by omega)) (q1 2 (by omega) (by omega)) (q1 3 (by omega) (by omega)) (q2 0 (by omega)) (q2 1 (by omega)) (q2 2 (by omega)), GM _ _ hU w, ⟨ch, by omega, by rw [q1 4 (by omega) (by omega)]; exact c2, ?_, sp⟩, h5.cg (q1 0 (by omega) (by omega)) (q1 5 (by omega) (by omega)) (q1 6 (by omega) (by omega)) (q1 7 (by omega) (by omega)) (q2 3 (by omega)) (q2 4 (by omega)) (q2 5 (by omega)) (w.1 12 (by omega)) (w.2.1 15 (by omega)), h6.cg (q1 11 (by omega) (by omega)) (q2 15 (by omega)) (w.1 3 (by omega)) (w.2.1 6 (by omega)), h7.cg (q2 14 (by omega)) (q2 11 (by omega)) (q2 12 (by omega)) (q2 13 (by omega)) (w.2.1 3 (by omega)) (w.2.1 4 (by omega))⟩
    unfold RKc RanksOK MB10 at c3 ⊢
    rw [q1 9 (by omega) (by omega), q1 20 (by omega) (by omega), q1 21 (by omega) (by omega), q2 6 (by omega), q2 7 (by omega), q3]
    exact c3
  unfold X6_spelled X7_spelled
  rw [e1, e2, bd_s, bd_s, ok.1, tx.1]
  by_cases m : v = (-1 : Int32)
  · rw [if_pos m, if_pos m]
    exact ⟨_, _, _, rfl, rfl, inv⟩
  · rw [if_neg m, if_neg m, X7_in_m1 (by omega), bd_s]
    by_cases c : inR v (spl t).length = true
    · obtain ⟨i, hi, rfl⟩ := inR_t c (by omega)
      rw [if_neg (by rw [l0, nI_ltp (by omega) (by omega)]; omega), if_pos (by rw [nI_ltp (by omega) (by omega)]; exact hi), ib_t c, inb_t (show i < 800 by omega) (by omega), inb_t (show i < 900 by omega) (by omega), gd_t, gd_t, nI_clamp (by omega), ok.2 i hi, tx.2 i hi]
      exact ⟨_, _, _, rfl, rfl, inv⟩
    · have c' : inR v (spl t).length = false := by simpa using c
      have d : ¬ (0 ≤ v.toInt ∧ v.toInt < (spl t).length) := of_decide_eq_false c'
      rw [ib_f c']
      by_cases d1 : v.toInt < 0
      · rw [if_pos (by rw [lt0_iff]; exact d1)]
        exact ⟨_, _, _, rfl, rfl, inv⟩
      · rw [if_neg (by rw [lt0_iff]; exact d1), if_neg (by rw [ltn_iff (by omega)]; omega)]
        exact ⟨_, _, _, rfl, rfl, inv⟩
