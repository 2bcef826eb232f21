/-! PURE 37: a statement of the tape, the reference's side -/
theorem nmb_i {L p f : Nat} {c : Nat → Nat} (h : nmb L c 1 p = .inl f) (m : Nat) : nmb L c m p = .inl f := by
  by_cases g : (decide (p < L) && decide (c p = 32)) = true
  · by_cases d : (decide (p + 1 < L) && dgt (c (p + 1))) = true
    · rw [nmb_c g d (by rw [show decide (1 = 2) = false from rfl, Bool.false_and]; decide)] at h
      cases h
    · rw [nmb_b g d] at h ⊢
      exact h
  · rw [nmb_a g] at h ⊢
    exact h
theorem nmb_2t {L p v q : Nat} {c : Nat → Nat} (h : nmb L c 1 p = .inr (v, q)) (e : (decide (q < L) && dgt (c q)) = true) : nmb L c 2 p = .inr (v * 10 + c q - 48, q + 1) := by
  by_cases g : (decide (p < L) && decide (c p = 32)) = true
  · by_cases d : (decide (p + 1 < L) && dgt (c (p + 1))) = true
    · rw [nmb_c g d (by rw [show decide (1 = 2) = false from rfl, Bool.false_and]; decide)] at h
      cases h
      rw [nmb_d g d (by rw [show decide (2 = 2) = true from rfl, Bool.true_and]; exact e)]
    · rw [nmb_b g d] at h
      cases h
  · rw [nmb_a g] at h
    cases h
theorem nmb_2f {L p v q : Nat} {c : Nat → Nat} (h : nmb L c 1 p = .inr (v, q)) (e : ¬ (decide (q < L) && dgt (c q)) = true) : nmb L c 2 p = .inr (v, q) := by
  by_cases g : (decide (p < L) && decide (c p = 32)) = true
  · by_cases d : (decide (p + 1 < L) && dgt (c (p + 1))) = true
    · rw [nmb_c g d (by rw [show decide (1 = 2) = false from rfl, Bool.false_and]; decide)] at h
      cases h
      rw [nmb_c g d (by rw [show decide (2 = 2) = true from rfl, Bool.true_and]; exact e)]
    · rw [nmb_b g d] at h
      cases h
  · rw [nmb_a g] at h
    cases h
theorem fig2M {v x : Nat} (h : 48 ≤ x) : ((10 : Int32) * nI v + nI x) - (48 : Int32) = nI (v * 10 + x - 48) := by
  rw [show (10 : Int32) = nI 10 from rfl, pk_mul, nI_add, l48, pk_sub (by omega), Nat.mul_comm]
theorem readWord_v {N L p : Nat} {c : Nat → Nat} {s : ST} (hN : 300 < N) (hT : TM L c s) (hp : s.1 4 = nI p) (h1 : p ≤ L) : X7_readWord N s = if wfd c p (skw L c L p) = 0 then some ((0 : Int32), sI (sI (sI s 4 (nI (skw L c L p))) 6 (nI 6)) 5 (nI p)) else some ((1 : Int32), sI (sI s 4 (nI (skw L c L p))) 6 (nI (wfd c p (skw L c L p) - 1))) := by
  have hL := hT.1
  obtain ⟨k1, k2⟩ := skw_in (c := c) (d := L) h1
  have fr1 : FrM s (sI s 4 (nI (skw L c L p))) := (FrM.rf s).put _ (by omega) (by omega)
  have e1 := skw_M L p N s hT hp h1 (by omega) (by omega)
  have e2 := readWord_L2v (N := N) (p := p) hN (hT.fr fr1) rfl k1 k2
  unfold X7_readWord
  rw [hp, nm_u, e1, bd_s, nm_u, l0, e2, bd_s]
  by_cases w : wfd c p (skw L c L p) = 0
  · rw [if_pos w, if_pos w]; rfl
  · rw [if_neg w, if_neg w]; rfl
theorem stm_M {N L p : Nat} {c : Nat → Nat} {s : ST} (hN : 300 < N) (hT : TM L c s) (hp : s.1 4 = nI p) (h1 : p ≤ L) : (∃ f, stm L c p = .inl f ∧ ∃ s', X7_readStatement N s = some ((0 : Int32), s') ∧ s'.1 5 = nI f ∧ FrM s s') ∨ (∃ w a b o q, stm L c p = .inr (w, a, b, o, q) ∧ ∃ s', X7_readStatement N s = some ((1 : Int32), s') ∧ s'.1 4 = nI q ∧ s'.1 6 = nI (w - 1) ∧ (w ≠ 5 → s'.1 8 = nI a) ∧ (w = 2 ∨ w = 3 ∨ w = 6 → s'.1 9 = nI b) ∧ (w = 5 → s'.1 10 = nI o) ∧ FrM s s') := by
  have hL := hT.1
  obtain ⟨k1, k2⟩ := skw_in (c := c) (d := L) h1
  have wl := wfd_le c p (skw L c L p)
  unfold X7_readStatement stm
  rw [readWord_v hN hT hp h1]
  generalize skw L c L p = q0 at k1 k2 wl ⊢
  generalize wfd c p q0 = w at wl ⊢
  by_cases w0 : w = 0
  · subst w0
    rw [if_pos (show (0 : Nat) = 0 from rfl), bd2_s, if_pos (show (0 : Int32) = 0 from rfl), stm0_0]
    exact Or.inl ⟨p, rfl, _, rfl, rfl, (((FrM.rf s).put _ (by omega) (by omega)).put _ (by omega) (by omega)).put _ (by omega) (by omega)⟩
  rw [if_neg w0, bd2_s, if_neg (show ¬ (1 : Int32) = 0 by decide)]
  have fr2 : FrM s (sI (sI s 4 (nI q0)) 6 (nI (w - 1))) := ((FrM.rf s).put _ (by omega) (by omega)).put _ (by omega) (by omega)
  have x4 : (sI (sI s 4 (nI q0)) 6 (nI (w - 1))).1 4 = nI q0 := rfl
  have x6 : (sI (sI s 4 (nI q0)) 6 (nI (w - 1))).1 6 = nI (w - 1) := rfl
  have T2 := hT.fr fr2
  generalize sI (sI s 4 (nI q0)) 6 (nI (w - 1)) = s2 at fr2 x4 x6 T2 ⊢
  rw [x6]
  by_cases w5 : w = 5
  · subst w5
    rw [if_pos (show nI (5 - 1) = (4 : Int32) from rfl)]
    unfold X7_readSet
    rw [nm_u]
    rcases readSet_M L 0 q0 N (sI s2 10 (nI 0)) (T2.fr ((FrM.rf s2).put _ (by omega) (by omega))) x4 k2 (by omega) (by omega) rfl with ⟨f, a1, s', a2, a3, a4⟩ | ⟨o, q, a1, s', a2, a3, a4, a5, a6⟩
    · have a2 : bd (X7_readSet_L1 N (sI s2 10 (0 : Int32))) (fun e12 => sm e12 (fun rv => some rv) fun e14 => some ((1 : Int32), e14)) = some ((0 : Int32), s') := a2
      rw [a2, bd2_s]
      exact Or.inl ⟨f, stm0_l a1, s', rfl, a3, (fr2.put (nI 0) (by omega) (by omega)).tr a4⟩
    · have a2 : bd (X7_readSet_L1 N (sI s2 10 (0 : Int32))) (fun e12 => sm e12 (fun rv => some rv) fun e14 => some ((1 : Int32), e14)) = some ((1 : Int32), s') := a2
      rw [a2, bd2_s]
      exact Or.inr ⟨5, 0, 0, o, q, stm0_r a1, s', rfl, a3, a5.trans x6, fun z => absurd rfl z, fun z => by omega, fun _ => a4, (fr2.put (nI 0) (by omega) (by omega)).tr a6⟩
  rw [if_neg (show ¬ nI (w - 1) = (4 : Int32) by rw [l4, nI_inj (by omega) (by omega)]; omega)]
  rcases readFigure_M T2 x4 k2 with ⟨f, a1, s', a2, a3, a4⟩ | ⟨a, q1, a1, a2, a3, -, s7, a5, a6, a7, a8, a9⟩
  · rw [a2, bd2_s, if_pos (show (0 : Int32) = 0 from rfl)]
    exact Or.inl ⟨f, stm0_i w0 w5 a1, s', rfl, a3, fr2.tr a4⟩
  rw [stm0_n w0 w5 a1, a5, bd2_s, if_neg (show ¬ (1 : Int32) = 0 by decide), nm_u, a7]
  have fr8 : FrM s (sI s7 8 (nI a)) := (fr2.tr ⟨fun j hj => a8 j (by omega) (by omega), a9⟩).put _ (by omega) (by omega)
  have y4 : (sI s7 8 (nI a)).1 4 = nI q1 := a6
  have y6 : (sI s7 8 (nI a)).1 6 = nI (w - 1) := (a8 6 (by omega) (by omega)).trans x6
  have y8 : (sI s7 8 (nI a)).1 8 = nI a := rfl
  have T8 := hT.fr fr8
  generalize sI s7 8 (nI a) = s8 at fr8 y4 y6 y8 T8 ⊢
  rw [y6]
  by_cases w1 : w = 1
  · subst w1
    rw [if_pos (show nI (1 - 1) = 0 from rfl)]
    exact Or.inr ⟨1, a, 0, 0, q1, stm2_n (by omega), s8, rfl, y4, y6, fun _ => y8, fun z => by omega, fun z => by omega, fr8⟩
  rw [if_neg (show ¬ nI (w - 1) = 0 by rw [nI_eq0 (by omega)]; omega)]
  by_cases w4 : w = 4
  · subst w4
    rw [if_pos (show nI (4 - 1) = (3 : Int32) from rfl)]
    exact Or.inr ⟨4, a, 0, 0, q1, stm2_n (by omega), s8, rfl, y4, y6, fun _ => y8, fun z => by omega, fun z => by omega, fr8⟩
  rw [if_neg (show ¬ nI (w - 1) = (3 : Int32) by rw [l3, nI_inj (by omega) (by omega)]; omega)]
  have hw3 : w = 2 ∨ w = 3 ∨ w = 6 := by omega
  rcases readFigure_M T8 y4 a3 with ⟨f, b1, s', b2, b3, b4⟩ | ⟨b, q2, b1, b2, b3, -, s9, b5, b6, b7, b8, b9⟩
  · rw [b2, bd2_s, if_pos (show (0 : Int32) = 0 from rfl)]
    exact Or.inl ⟨f, stm2_i hw3 (nmb_i b1 _), s', rfl, b3, fr8.tr b4⟩
  have frA : FrM s (sI s9 9 (nI b)) := (fr8.tr ⟨fun j hj => b8 j (by omega) (by omega), b9⟩).put _ (by omega) (by omega)
  have z4 : (sI s9 9 (nI b)).1 4 = nI q2 := b6
  have z6 : (sI s9 9 (nI b)).1 6 = nI (w - 1) := (b8 6 (by omega) (by omega)).trans y6
  have z8 : (sI s9 9 (nI b)).1 8 = nI a := (b8 8 (by omega) (by omega)).trans y8
  have z9 : (sI s9 9 (nI b)).1 9 = nI b := rfl
  have TA := hT.fr frA
  rw [b5, bd2_s, if_neg (show ¬ (1 : Int32) = 0 by decide), nm_u, b7]
  generalize sI s9 9 (nI b) = sA9 at frA z4 z6 z8 z9 TA ⊢
  rw [z6]
  by_cases w6 : w = 6
  · subst w6
    rw [if_pos (show nI (6 - 1) = (5 : Int32) from rfl), isFigure_M TA z4 (by omega), bd_s]
    by_cases d : (decide (q2 < L) && dgt (c q2)) = true
    · have d' := d
      rw [Bool.and_eq_true, decide_eq_true_iff] at d'
      obtain ⟨c1, c2, c3⟩ := TA.2.2 q2 d'.1
      have c4 := dgt_t d'.2
      rw [ib_t d, z4, inb_t (show q2 < 120 by omega) (by omega), gd_t, nI_clamp (by omega), c1, z9, fig2M c4.1, nm_u, nm_u]
      refine Or.inr ⟨6, a, b * 10 + c q2 - 48, 0, q2 + 1, stm2_r hw3 (nmb_2t b1 d), _, rfl, ?_, ?_, fun _ => z8, fun _ => rfl, fun z => by omega, (frA.put _ (by omega) (by omega)).put _ (by omega) (by omega)⟩
      · rw [sI_at, sI_ne (by omega), z4, nI_1]
      · exact z6
    · rw [ib_f (by simpa using d)]
      exact Or.inr ⟨6, a, b, 0, q2, stm2_r hw3 (nmb_2f b1 d), sA9, rfl, z4, z6, fun _ => z8, fun _ => z9, fun z => by omega, frA⟩
  · rw [if_neg (show ¬ nI (w - 1) = (5 : Int32) by rw [show (5 : Int32) = nI 5 from rfl, nI_inj (by omega) (by omega)]; omega)]
    exact Or.inr ⟨w, a, b, 0, q2, stm2_r hw3 (by rw [if_neg w6]; exact b1), sA9, rfl, z4, z6, fun _ => z8, fun _ => z9, fun z => absurd z w5, frA⟩
