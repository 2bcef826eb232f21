/-! PURE 38: read -/
theorem done_h {s s' u u' : ST} {r : Int32} (g : (s' = s ∧ u' = u ∧ r < 0) ∨ (0 ≤ r ∧ ∃ t', Step2 s s' u u' t' 1)) : ∃ d s2 u2, (if r < 0 then some ((0 : Int32), s') else some ((1 : Int32), s')) = some (bI d, s2) ∧ (if r < 0 then some ((0 : Int32), u') else some ((1 : Int32), u')) = some (bI d, u2) ∧ ((d = false ∧ s2 = s ∧ u2 = u) ∨ (d = true ∧ ∃ t', Step2 s s2 u u2 t' 1)) := by
  rcases g with ⟨rfl, rfl, hr⟩ | ⟨hr, t', g⟩
  · exact ⟨false, _, _, by rw [if_pos hr]; rfl, by rw [if_pos hr]; rfl, Or.inl ⟨rfl, rfl, rfl⟩⟩
  · have hn : ¬ r < 0 := Int32.not_lt.mpr hr
    exact ⟨true, _, _, by rw [if_neg hn]; rfl, by rw [if_neg hn]; rfl, Or.inr ⟨rfl, t', g⟩⟩
theorem isDone_2 {N w a b o : Nat} {s u : ST} {t : TB} (hN : 300 < N) (hO : OKT t) (hX : XT s 1 0 t) (hU : XT u 0 0 t) (hw : 1 ≤ w ∧ w ≤ 6) (e12 : s.1 12 = nI w) (e13 : s.1 13 = nI a) (e14 : s.1 14 = nI b) (e15 : s.1 15 = nI o) (f6 : u.1 6 = nI (w - 1)) (f8 : w ≠ 5 → u.1 8 = nI a) (f9 : w = 2 ∨ w = 3 ∨ w = 6 → u.1 9 = nI b) (f10 : w = 5 → u.1 10 = nI o) (ha : a < 100) : ∃ d s' u', X6_isDone N s = some (bI d, s') ∧ X7_isDone N u = some (bI d, u') ∧ ((d = false ∧ s' = s ∧ u' = u) ∨ (d = true ∧ ∃ t', Step2 s s' u u' t' 1)) := by
  have h8 := hO.1
  unfold X6_isDone X7_isDone
  rw [e12, f6]
  have : w = 1 ∨ w = 2 ∨ w = 3 ∨ w = 4 ∨ w = 5 ∨ w = 6 := by omega
  rcases this with rfl | rfl | rfl | rfl | rfl | rfl
  · rw [if_pos (show nI 1 = (1 : Int32) from rfl), if_pos (show nI (1 - 1) = (0 : Int32) from rfl), e13, f8 (by omega)]
    obtain ⟨r, s', u', a1, a2, g⟩ := posts_2 (N := N) (by omega) hO hX hU (nI a)
    rw [a1, a2, bd2_s, bd2_s]
    exact done_h g
  · rw [if_neg (show ¬ nI 2 = (1 : Int32) by decide), if_pos (show nI 2 = (2 : Int32) from rfl), if_neg (show ¬ nI (2 - 1) = (0 : Int32) by decide), if_pos (show nI (2 - 1) = (1 : Int32) from rfl), e13, e14, f8 (by omega), f9 (by omega)]
    obtain ⟨r, s', u', a1, a2, g⟩ := road_2 hO hX hU (nI a) (nI b) (1 : Int32)
    rw [a1, a2, bd2_s, bd2_s]
    exact done_h g
  · rw [if_neg (show ¬ nI 3 = (1 : Int32) by decide), if_neg (show ¬ nI 3 = (2 : Int32) by decide), if_pos (show nI 3 = (3 : Int32) from rfl), if_neg (show ¬ nI (3 - 1) = (0 : Int32) by decide), if_neg (show ¬ nI (3 - 1) = (1 : Int32) by decide), if_pos (show nI (3 - 1) = (2 : Int32) from rfl), e13, e14, f8 (by omega), f9 (by omega)]
    obtain ⟨r, s', u', a1, a2, g⟩ := road_2 hO hX hU (nI a) (nI b) (0 : Int32)
    rw [a1, a2, bd2_s, bd2_s]
    exact done_h g
  · rw [if_neg (show ¬ nI 4 = (1 : Int32) by decide), if_neg (show ¬ nI 4 = (2 : Int32) by decide), if_neg (show ¬ nI 4 = (3 : Int32) by decide), if_pos (show nI 4 = (4 : Int32) from rfl), if_neg (show ¬ nI (4 - 1) = (0 : Int32) by decide), if_neg (show ¬ nI (4 - 1) = (1 : Int32) by decide), if_neg (show ¬ nI (4 - 1) = (2 : Int32) by decide), if_pos (show nI (4 - 1) = (3 : Int32) from rfl), e13, f8 (by omega), (isPost_2 hO hX hU (nI a)).1, (isPost_2 hO hX hU (nI a)).2, bd_s, bd_s]
    refine bc (b := inR (nI a) (tN t)) (fun q => ⟨false, s, u, by rw [ib_f q]; rfl, by rw [ib_f q]; rfl, Or.inl ⟨rfl, rfl, rfl⟩⟩) fun q => ?_
    rw [ib_t q, ib_t q]
    rw [inR_nI (by omega), decide_eq_true_iff] at q
    rw [hX.2.1, hU.2.1, in_val (by omega)]
    obtain ⟨r, s', u', a1, a2, g⟩ := targets_2 hO hX hU (nI (tT t ||| 2 ^ a))
    rw [a1, a2, bd2_s, bd2_s]
    exact done_h g
  · rw [if_neg (show ¬ nI 5 = (1 : Int32) by decide), if_neg (show ¬ nI 5 = (2 : Int32) by decide), if_neg (show ¬ nI 5 = (3 : Int32) by decide), if_neg (show ¬ nI 5 = (4 : Int32) by decide), if_pos (show nI 5 = (5 : Int32) from rfl), if_neg (show ¬ nI (5 - 1) = (0 : Int32) by decide), if_neg (show ¬ nI (5 - 1) = (1 : Int32) by decide), if_neg (show ¬ nI (5 - 1) = (2 : Int32) by decide), if_neg (show ¬ nI (5 - 1) = (3 : Int32) by decide), if_pos (show nI (5 - 1) = (4 : Int32) from rfl), e15, f10 rfl]
    obtain ⟨r, s', u', a1, a2, g⟩ := add_2 hO hX hU (nI o)
    rw [a1, a2, bd2_s, bd2_s]
    exact done_h g
  · rw [if_neg (show ¬ nI 6 = (1 : Int32) by decide), if_neg (show ¬ nI 6 = (2 : Int32) by decide), if_neg (show ¬ nI 6 = (3 : Int32) by decide), if_neg (show ¬ nI 6 = (4 : Int32) by decide), if_neg (show ¬ nI 6 = (5 : Int32) by decide), if_pos (show nI 6 = (6 : Int32) from rfl), if_neg (show ¬ nI (6 - 1) = (0 : Int32) by decide), if_neg (show ¬ nI (6 - 1) = (1 : Int32) by decide), if_neg (show ¬ nI (6 - 1) = (2 : Int32) by decide), if_neg (show ¬ nI (6 - 1) = (3 : Int32) by decide), if_neg (show ¬ nI (6 - 1) = (4 : Int32) by decide), e13, e14, f8 (by omega), f9 (by omega)]
    obtain ⟨r, s', u', a1, a2, g⟩ := weigh_2 hO hX hU (nI a) (nI b)
    rw [a1, a2, bd2_s, bd2_s]
    exact done_h g
/-- the fault of a text, if it has one -/
def txt (L : Nat) (c : Nat → Nat) : Nat → Nat → Option Nat
  | 0, _ => none
  | d + 1, p => match stm L c p with
    | .inl f => some f
    | .inr (_, _, _, _, q) => if q = L then none else if c q = 59 then txt L c d (q + 1) else some q
theorem txt_l {L d p f : Nat} {c : Nat → Nat} (h : stm L c p = .inl f) : txt L c (d + 1) p = some f := by
  unfold txt
  rw [h]
theorem txt_r {L d p w a b o q : Nat} {c : Nat → Nat} (h : stm L c p = .inr (w, a, b, o, q)) : txt L c (d + 1) p = if q = L then none else if c q = 59 then txt L c d (q + 1) else some q := by
  conv => lhs; unfold txt
  rw [h]
theorem semi_X {L q : Nat} {c : Nat → Nat} {s : ST} (hT : TX L c s) (hq : s.1 16 = nI q) (h1 : q ≤ L) : X5_takeSemicolon s = if q = L then some ((0 : Int32), s) else if c q = 59 then some ((1 : Int32), sI s 16 (nI (q + 1))) else some ((0 : Int32), sI s 17 (nI q)) := by
  obtain ⟨t1, t2, t3⟩ := hT
  unfold X5_takeSemicolon
  rw [t2, hq]
  by_cases e : q = L
  · rw [if_neg (by rw [nI_ltp (by omega) (by omega)]; omega), if_pos e]
  · obtain ⟨c1, c2, c3⟩ := t3 q (by omega)
    rw [if_pos (by rw [nI_ltp (by omega) (by omega)]; omega), if_neg e, inb_t (show q < 120 by omega) (by omega), gd_t, nI_clamp (by omega), c1]
    by_cases g : c q = 59
    · rw [if_pos (by rw [g]; rfl), if_pos g, nm_u, nI_1]
    · rw [if_neg (by rw [l59, nI_inj (by omega) (by omega)]; exact g), if_neg g, nm_u]
theorem fault_X {N L : Nat} {c : Nat → Nat} (hN : 300 < N) : ∀ d p i k (s : ST), TX L c s → s.1 16 = nI p → p ≤ L → L + 1 ≤ p + d → i ≤ p → d < k → s.1 17 = -1 → ∃ s', X5_findFault_L1 N k (nI i) (1 : Int32) s = some s' ∧ FrX s s' ∧ ((txt L c d p = none ∧ s'.1 17 = -1) ∨ ∃ f, txt L c d p = some f ∧ f ≤ L ∧ s'.1 17 = nI f)
  | 0, p, i, k, s, hT, hp, h1, h2, h3, h4, h5 => by omega
  | d + 1, p, i, k, s, hT, hp, h1, h2, h3, h4, h5 => by
    obtain ⟨k, rfl⟩ : ∃ j, k = j + 1 + 1 := ⟨k - 2, by omega⟩
    have hL := hT.1
    have off : ∀ (x : ST) (j : Int32), X5_findFault_L1 N (k + 1) j (0 : Int32) x = some x := fun x j => by
      show X5_findFault_L1_b N (X5_findFault_L1 N k) j (0 : Int32) x = _
      unfold X5_findFault_L1_b
      rw [if_pos rfl]
    rw [show X5_findFault_L1 N (k + 1 + 1) (nI i) (1 : Int32) s = X5_findFault_L1_b N (X5_findFault_L1 N (k + 1)) (nI i) (1 : Int32) s from rfl]
    unfold X5_findFault_L1_b
    rw [if_neg (by decide), hT.2.1, if_neg (by rw [nI_ltp (by omega) (by omega)]; omega)]
    rcases stm_X hN hT hp h1 h5 with ⟨f, a1, a2, s1, a3, a4, a5⟩ | ⟨w, a, b, o, q, a1, -, -, -, -, a2, a3, s1, a4, a5, a6, a7, a8, a9, a10, a11⟩
    · rw [a3, bd_s, if_neg (by rw [a4]; exact m1_ne (by omega)), nm_u, off]
      exact ⟨s1, rfl, a5, Or.inr ⟨f, txt_l a1, a2, a4⟩⟩
    · rw [a4, bd_s, if_pos a5, semi_X (hT.fr a11) a6 a3, txt_r a1]
      by_cases e : q = L
      · rw [if_pos e, if_pos e, bd2_s, if_pos rfl, nm_u, off]
        exact ⟨s1, rfl, a11, Or.inl ⟨rfl, a5⟩⟩
      · rw [if_neg e, if_neg e]
        by_cases g : c q = 59
        · have fr : FrX s (sI s1 16 (nI (q + 1))) := a11.put _ (by omega) (by omega)
          rw [if_pos g, if_pos g, bd2_s, if_neg (by decide), nm_u, nI_1]
          obtain ⟨s2, b1, b2, b3⟩ := fault_X hN d (q + 1) (i + 1) (k + 1) (sI s1 16 (nI (q + 1))) (hT.fr fr) rfl (by omega) (by omega) (by omega) (by omega) a5
          exact ⟨s2, b1, fr.tr b2, b3⟩
        · rw [if_neg g, if_neg g, bd2_s, if_pos rfl, nm_u, off]
          exact ⟨_, rfl, a11.put _ (by omega) (by omega), Or.inr ⟨q, rfl, a3, rfl⟩⟩
/-- bounds of a statement, whatever side reads it -/
theorem stm_in {L p w a b o q : Nat} {c : Nat → Nat} (hL : L ≤ 120) (hc : ∀ i, i < L → 32 ≤ c i ∧ c i ≤ 126) (h1 : p ≤ L) (h : stm L c p = .inr (w, a, b, o, q)) : p + 1 < q ∧ q ≤ L := by
  rcases stm_X (N := 301) (L := L) (c := c) (p := p) (s := ((fun k => if k = 11 then nI L else if k = 16 then nI p else -1), (fun _ i => nI (c i)), fun _ _ => 0)) (by omega) ⟨hL, rfl, fun i hi => ⟨rfl, hc i hi⟩⟩ rfl h1 rfl with ⟨f, a1, -⟩ | ⟨w', a', b', o', q', a1, -, -, -, -, a2, a3, -⟩
  · rw [h] at a1; cases a1
  · rw [h] at a1; cases a1; exact ⟨a2, a3⟩
/-- the reference's first reading -/
theorem reads_M0 {N L : Nat} {c : Nat → Nat} (hN : 300 < N) : ∀ d p n k (s : ST), TM L c s → s.1 4 = nI p → p ≤ L → L + 1 ≤ p + d → d < k → ∃ r s', bd (X7_reads_L1 N (0 : Int32) k (nI n) s) (fun e28 => sm e28 (fun rv => some rv) fun e30 => some (((-100 : Int32) - (e30.1 5)), e30)) = some (r, s') ∧ FrM s s' ∧ ((txt L c d p = none ∧ ∃ m, m ≤ n + d ∧ r = nI m) ∨ ∃ f, txt L c d p = some f ∧ r = (-100 : Int32) - nI f)
  | 0, p, n, k, s, hT, hp, h1, h2, h3 => by omega
  | d + 1, p, n, k, s, hT, hp, h1, h2, h3 => by
    obtain ⟨k, rfl⟩ : ∃ j, k = j + 1 := ⟨k - 1, by omega⟩
    have hL := hT.1
    rw [show X7_reads_L1 N (0 : Int32) (k + 1) (nI n) s = X7_reads_L1_b N (0 : Int32) (X7_reads_L1 N (0 : Int32) k) (nI n) s from rfl]
    unfold X7_reads_L1_b
    rcases stm_M hN hT hp h1 with ⟨f, a1, s1, a2, a3, a4⟩ | ⟨w, a, b, o, q, a1, s1, a2, a3, -, -, -, -, a4⟩
    · rw [a2, bd2_s, if_pos rfl, bd_s]
      refine ⟨_, s1, rfl, a4, Or.inr ⟨f, txt_l a1, ?_⟩⟩
      rw [a3]
    · obtain ⟨qp, ql⟩ := stm_in hL (fun i hi => (hT.2.2 i hi).2) h1 a1
      have T1 := hT.fr a4
      rw [a2, bd2_s, if_neg (by decide), if_pos rfl, nm_u, nI_1, a3, T1.2.1, txt_r a1]
      by_cases e : q = L
      · rw [if_pos (by rw [e]), if_pos e, bd_s]
        exact ⟨_, s1, rfl, a4, Or.inl ⟨rfl, n + 1, by omega, rfl⟩⟩
      · rw [if_neg (by rw [nI_inj (by omega) (by omega)]; exact e), if_neg e, l59, isHere_M (x := 59) T1 a3 (by omega) (by omega), bd_s, decide_eq_true (show q < L by omega), Bool.true_and]
        by_cases g : c q = 59
        · have fr : FrM s (sI s1 4 (nI (q + 1))) := a4.put _ (by omega) (by omega)
          rw [ib_t (decide_eq_true g), if_pos g, nI_1, nm_u]
          obtain ⟨r, s2, b1, b2, b3⟩ := reads_M0 hN d (q + 1) (n + 1) k (sI s1 4 (nI (q + 1))) (hT.fr fr) rfl (by omega) (by omega) (by omega)
          refine ⟨r, s2, b1, fr.tr b2, b3.imp ?_ id⟩
          rintro ⟨z1, m, z2, z3⟩
          exact ⟨z1, m, by omega, z3⟩
        · rw [ib_f (decide_eq_false g), if_neg g, bd_s]
          exact ⟨_, s1, rfl, a4, Or.inr ⟨q, rfl, rfl⟩⟩
/-- what the doing of statements leads to -/
def Rd (s s' u u' : ST) (t t' : TB) (d : Nat) : Prop := OKT t' ∧ XT s' 1 0 t' ∧ XT u' 0 0 t' ∧ (∀ c, c = 0 ∨ (4 < c ∧ c < 12) ∨ 17 < c → s'.1 c = s.1 c) ∧ (∀ c, 2 < c → s'.2.1 c = s.2.1 c) ∧ s'.2.2 = s.2.2 ∧ (∀ c, c = 3 ∨ 10 < c → u'.1 c = u.1 c) ∧ (∀ c, 2 < c → u'.2.1 c = u.2.1 c) ∧ s'.1 4 = s.1 4 + nI d ∧ (d = 0 → t' = t)
theorem Rd.tr {s s' s'' u u' u'' : ST} {t t1 t2 : TB} {a b : Nat} (h : Rd s s' u u' t t1 a) (g : Rd s' s'' u' u'' t1 t2 b) : Rd s s'' u u'' t t2 (a + b) := by
  obtain ⟨h1, h2, h3, h4, h5, h6, h7, h8, h9, h10⟩ := h
  obtain ⟨g1, g2, g3, g4, g5, g6, g7, g8, g9, g10⟩ := g
  refine ⟨g1, g2, g3, fun c hc => (g4 c hc).trans (h4 c hc), fun c hc => (g5 c hc).trans (h5 c hc), g6.trans h6, fun c hc => (g7 c hc).trans (h7 c hc), fun c hc => (g8 c hc).trans (h8 c hc), ?_, fun z => ?_⟩
  · rw [g9, h9, Int32.add_assoc, nI_add]
  · exact (g10 (by omega)).trans (h10 (by omega))
theorem Rd.of {s s' u u' : ST} {t : TB} (hO : OKT t) (hX : XT s 1 0 t) (hU : XT u 0 0 t) (h : FrX s s') (g : FrM u u') : Rd s s' u u' t t 0 := by
  refine ⟨hO, hX.cg (h.1 1 (by omega)) (h.1 2 (by omega)) (h.1 3 (by omega)) (by rw [h.2]) (by rw [h.2]) (by rw [h.2]), hU.cg (g.1 0 (by omega)) (g.1 1 (by omega)) (g.1 2 (by omega)) (by rw [g.2]) (by rw [g.2]) (by rw [g.2]), fun c hc => h.1 c (by omega), fun c _ => by rw [h.2], by rw [h.2], fun c hc => g.1 c (by omega), fun c _ => by rw [g.2], ?_, fun _ => rfl⟩
  rw [h.1 4 (by omega), show nI 0 = 0 from rfl, Int32.add_zero]
theorem Rd.step {s s' u u' : ST} {t t' : TB} (h : Step2 s s' u u' t' 1) : Rd s s' u u' t t' 1 := by
  obtain ⟨a1, a2, a3, a4, a5, a6, a7, a8, a9⟩ := h
  exact ⟨a1, a2, a3, fun c hc => a4 c (by omega), a5, a6, fun c hc => a7 c (by omega), a8, a9, fun z => by omega⟩
theorem TX.rd {L : Nat} {c : Nat → Nat} {s s' u u' : ST} {t t' : TB} {d : Nat} (h : TX L c s) (g : Rd s s' u u' t t' d) : TX L c s' := ⟨h.1, (g.2.2.2.1 11 (by omega)).trans h.2.1, by rw [g.2.2.2.2.1 15 (by omega)]; exact h.2.2⟩
theorem TM.rd {L : Nat} {c : Nat → Nat} {s s' u u' : ST} {t t' : TB} {d : Nat} (h : TM L c u) (g : Rd s s' u u' t t' d) : TM L c u' := ⟨h.1, (g.2.2.2.2.2.2.1 3 (by omega)).trans h.2.1, by rw [g.2.2.2.2.2.2.2.1 6 (by omega)]; exact h.2.2⟩
theorem do_2 {N L : Nat} {c : Nat → Nat} (hN : 300 < N) : ∀ d p n i k m (s u : ST) (t : TB), TX L c s → TM L c u → s.1 16 = nI p → u.1 4 = nI p → p ≤ L → L + 1 ≤ p + d → i ≤ p → d < k → d < m → s.1 17 = -1 → txt L c d p = none → OKT t → XT s 1 0 t → XT u 0 0 t → ∃ r s' u' t' e, bd (X6_doStatements_L1 N k (nI i) (1 : Int32) (nI n) s) (fun e18 => sm e18 (fun rv => some rv) fun e20 => some (e20.1, e20.2)) = some (r, s') ∧ bd (X7_reads_L1 N (1 : Int32) m (nI n) u) (fun e28 => sm e28 (fun rv => some rv) fun e30 => some (((-100 : Int32) - (e30.1 5)), e30)) = some (r, u') ∧ Rd s s' u u' t t' e ∧ e ≤ d
  | 0, p, n, i, k, m, s, u, t, hT, hM, hp, hq, h1, h2, h3, h4, h5, h6, h7, hO, hX, hU => by omega
  | d + 1, p, n, i, k, m, s, u, t, hT, hM, hp, hq, h1, h2, h3, h4, h5, h6, h7, hO, hX, hU => by
    obtain ⟨k, rfl⟩ : ∃ j, k = j + 1 + 1 := ⟨k - 2, by omega⟩
    obtain ⟨m, rfl⟩ : ∃ j, m = j + 1 := ⟨m - 1, by omega⟩
    have hL := hT.1
    have off : ∀ (x : ST) (j n : Int32), X6_doStatements_L1 N (k + 1) j (0 : Int32) n x = some (Sum.inr (n, x)) := fun x j n => by
      show X6_doStatements_L1_b N (X6_doStatements_L1 N k) j (0 : Int32) n x = _
      unfold X6_doStatements_L1_b
      rw [if_pos rfl]
    rw [show X6_doStatements_L1 N (k + 1 + 1) (nI i) (1 : Int32) (nI n) s = X6_doStatements_L1_b N (X6_doStatements_L1 N (k + 1)) (nI i) (1 : Int32) (nI n) s from rfl, show X7_reads_L1 N (1 : Int32) (m + 1) (nI n) u = X7_reads_L1_b N (1 : Int32) (X7_reads_L1 N (1 : Int32) m) (nI n) u from rfl]
    unfold X6_doStatements_L1_b X7_reads_L1_b
    rw [if_neg (by decide), hT.2.1, if_neg (by rw [nI_ltp (by omega) (by omega)]; omega)]
    rcases stm_X hN hT hp h1 h6 with ⟨f, a1, a2, s1, a3, a4, a5⟩ | ⟨w, a, b, o, q, a1, aw, aa, -, -, a2, a3, s1, a4, a5, a6, a7, a8, a9, a10, a11⟩
    · rw [txt_l a1] at h7
      cases h7
    rcases stm_M hN hM hq h1 with ⟨f, b1, -⟩ | ⟨w', a', b', o', q', b1, u1, b2, b3, b4, b5, b6, b7, b8⟩
    · rw [a1] at b1; cases b1
    rw [a1] at b1
    cases b1
    have R1 := Rd.of hO hX hU a11 b8
    rw [a4, bd_s, b2, bd2_s, if_neg (by decide), if_neg (by decide)]
    obtain ⟨g, s2, u2, c1, c2, c3⟩ := isDone_2 (N := N) hN hO R1.2.1 R1.2.2.1 aw a7 a8 a9 a10 b4 b5 b6 b7 aa
    rw [c1, c2, bd2_s, bd2_s]
    rcases c3 with ⟨rfl, rfl, rfl⟩ | ⟨rfl, t1, c3⟩
    · rw [ib_f rfl, ib_f rfl, bd_s, bd_s]
      exact ⟨_, _, _, t, 0, rfl, rfl, R1, by omega⟩
    · have R2 := R1.tr (Rd.step (t := t) c3)
      have q16 : s2.1 16 = nI q := (c3.2.2.2.1 16 (by omega)).trans a6
      have q17 : s2.1 17 = -1 := (c3.2.2.2.1 17 (by omega)).trans a5
      have q4 : u2.1 4 = nI q := (c3.2.2.2.2.2.2.1 4 (by omega)).trans b3
      have T2 := hT.rd R2
      have M2 := hM.rd R2
      rw [ib_t rfl, ib_t rfl, nm_u, nm_u, nI_1, semi_X T2 q16 a3, q4, M2.2.1]
      rw [txt_r a1] at h7
      by_cases e : q = L
      · rw [if_pos e, bd2_s, nm_u, off, if_pos (by rw [e]), bd_s, bd_s]
        exact ⟨_, _, _, t1, 0 + 1, rfl, rfl, R2, by omega⟩
      · rw [if_neg e] at h7 ⊢
        by_cases g : c q = 59
        · rw [if_pos g] at h7 ⊢
          have fr : FrX s2 (sI s2 16 (nI (q + 1))) := (FrX.rf s2).put _ (by omega) (by omega)
          have fm : FrM u2 (sI u2 4 (nI (q + 1))) := (FrM.rf u2).put _ (by omega) (by omega)
          have R3 := R2.tr (Rd.of R2.1 R2.2.1 R2.2.2.1 fr fm)
          rw [bd2_s, nm_u, nI_1, if_neg (by rw [nI_inj (by omega) (by omega)]; exact e), l59, isHere_M (x := 59) M2 q4 (by omega) (by omega), bd_s, decide_eq_true (show q < L by omega), Bool.true_and, ib_t (decide_eq_true g), nI_1, nm_u]
          obtain ⟨r, s4, u4, t4, e4, d1, d2, d3, d4⟩ := do_2 hN d (q + 1) (n + 1) (i + 1) (k + 1) m (sI s2 16 (nI (q + 1))) (sI u2 4 (nI (q + 1))) t1 (T2.fr fr) (M2.fr fm) rfl rfl (by omega) (by omega) (by omega) (by omega) (by omega) q17 h7 R3.1 R3.2.1 R3.2.2.1
          exact ⟨r, s4, u4, t4, 0 + 1 + 0 + e4, d1, d2, R3.tr d3, by omega⟩
        · rw [if_neg g] at h7
          cases h7
theorem neg_f : ∀ f, f < 121 → (-100 : Int32) - nI f < 0 := by decide +kernel
theorem read_end {k : Nat} {s s' u u' : ST} {t : TB} (hC : CHok k s t) (hI : IMok s u) (hR : RWok s u) (hO : OKT t) (hX : XT s' 1 0 t) (hU : XT u' 0 0 t) (q4 : s'.1 4 = s.1 4) (q : ∀ c, c = 0 ∨ (4 < c ∧ c < 11) ∨ 17 < c → s'.1 c = s.1 c) (q2 : ∀ c, 2 < c → s'.2.1 c = s.2.1 c) (q3 : s'.2.2 = s.2.2) (g : ∀ c, 10 < c → u'.1 c = u.1 c) (g2 : ∀ c, 2 < c → u'.2.1 c = u.2.1 c) (e11 : s'.1 11 = nI 0) (e3 : u'.1 3 = nI 0) : Inv (k + 1) s' u' :=
  ⟨t, hO, hX, hU, hC.cg q4 (q 9 (by omega)) (q 18 (by omega)) (q 19 (by omega)) (q 20 (by omega)) (q 21 (by omega)) (q2 6 (by omega)) (q2 7 (by omega)) (q2 16 (by omega)) (by rw [q3]), hI.cg (q 0 (by omega)) (q 5 (by omega)) (q 6 (by omega)) (q 7 (by omega)) (q2 3 (by omega)) (q2 4 (by omega)) (q2 5 (by omega)) (g 12 (by omega)) (g2 15 (by omega)), ⟨0, fun _ => 0, by omega, e11, e3, fun i hi => absurd hi (Nat.not_lt_zero i)⟩, hR.cg (q2 14 (by omega)) (q2 11 (by omega)) (q2 12 (by omega)) (q2 13 (by omega)) (g2 3 (by omega)) (g2 4 (by omega))⟩
theorem case_read {k N : Nat} {s u : ST} (h : Inv k s u) (hk : k < 512) (hN : 300 < N) : ∃ r s' u', X6_read N s = some (r, s') ∧ X7_read N u = some (r, u') ∧ Inv (k + 1) s' u' := by
  obtain ⟨t, hO, hX, hU, hC, hI, ⟨L, c, l1, l2, l3, l4⟩, hR⟩ := id h
  have hT : TX L c s := ⟨l1, l2, fun i hi => ⟨(l4 i hi).1, (l4 i hi).2.2⟩⟩
  have hM : TM L c u := ⟨l1, l3, fun i hi => ⟨(l4 i hi).2.1, (l4 i hi).2.2⟩⟩
  have fr0 : FrX s (sI (sI s 16 (0 : Int32)) 17 (-1 : Int32)) := ((FrX.rf s).put _ (by omega) (by omega)).put _ (by omega) (by omega)
  have fm0 : FrM u (sI u 4 (0 : Int32)) := (FrM.rf u).put _ (by omega) (by omega)
  obtain ⟨s1, a1, a2, a3⟩ := fault_X hN (L + 1) 0 0 N (sI (sI s 16 (0 : Int32)) 17 (-1 : Int32)) (hT.fr fr0) rfl (by omega) (by omega) (by omega) (by omega) rfl
  obtain ⟨r, u1, b1, b2, b3⟩ := reads_M0 hN (L + 1) 0 0 N (sI u 4 (0 : Int32)) (hM.fr fm0) rfl (by omega) (by omega) (by omega)
  have fr1 := fr0.tr a2
  have fm1 := fm0.tr b2
  have a1 : X5_findFault_L1 N N (0 : Int32) (1 : Int32) (sI (sI s 16 (0 : Int32)) 17 (-1 : Int32)) = some s1 := a1
  have b1 : bd (X7_reads_L1 N (0 : Int32) N (0 : Int32) (sI u 4 (0 : Int32))) (fun e28 => sm e28 (fun rv => some rv) fun e30 => some (((-100 : Int32) - (e30.1 5)), e30)) = some (r, u1) := b1
  have x1 : X5_findFault N s = some (s1.1 17, s1) := by
    unfold X5_findFault X5_rewind
    rw [nm_u, nm_u, bd_s, a1, bd_s]
  have y1 : X7_reads N u (0 : Int32) = some (r, u1) := by
    unfold X7_reads
    rw [nm_u]
    exact b1
  unfold X6_read X7_read
  rw [x1, y1, bd2_s, bd2_s]
  rcases a3 with ⟨z1, z2⟩ | ⟨f, z1, z2, z3⟩
  · obtain ⟨m, hm, rfl⟩ : ∃ m, m ≤ 0 + (L + 1) ∧ r = nI m := by
      rcases b3 with ⟨-, w⟩ | ⟨f, w, -⟩
      · exact w
      · rw [z1] at w; cases w
    have fr2 : FrX s (sI (sI s1 16 (0 : Int32)) 17 (-1 : Int32)) := (fr1.put _ (by omega) (by omega)).put _ (by omega) (by omega)
    have fm2 : FrM u (sI u1 4 (0 : Int32)) := fm1.put _ (by omega) (by omega)
    have R1 := Rd.of hO hX hU fr2 fm2
    obtain ⟨r', s3, u3, t', e, d1, d2, d3, d4⟩ := do_2 hN (L + 1) 0 0 0 N N (sI (sI s1 16 (0 : Int32)) 17 (-1 : Int32)) (sI u1 4 (0 : Int32)) t (hT.fr fr2) (hM.fr fm2) rfl rfl (by omega) (by omega) (by omega) (by omega) (by omega) rfl z1 hO R1.2.1 R1.2.2.1
    have d1 : bd (X6_doStatements_L1 N N (0 : Int32) (1 : Int32) (0 : Int32) (sI (sI s1 16 (0 : Int32)) 17 (-1 : Int32))) (fun e18 => sm e18 (fun rv => some rv) fun e20 => some (e20.1, e20.2)) = some (r', s3) := d1
    have d2 : bd (X7_reads_L1 N (1 : Int32) N (0 : Int32) (sI u1 4 (0 : Int32))) (fun e28 => sm e28 (fun rv => some rv) fun e30 => some (((-100 : Int32) - (e30.1 5)), e30)) = some (r', u3) := d2
    have x2 : X6_doStatements N s1 = some (r', s3) := by
      unfold X6_doStatements X5_rewind
      rw [nm_u, nm_u, bd_s]
      exact d1
    have y2 : X7_reads N u1 (1 : Int32) = some (r', u3) := by
      unfold X7_reads
      rw [nm_u]
      exact d2
    have R := R1.tr d3
    rw [z2, if_pos rfl, if_neg (show ¬ nI m < 0 by rw [l0, nI_ltp (by omega) (by omega)]; omega), x2, y2, bd2_s, bd2_s, nm_u, nm_u]
    refine ⟨_, _, _, rfl, rfl, ?_⟩
    obtain ⟨g1, g2, g3, g4, g5, g6, g7, g8, g9, g10⟩ := R
    have gX : XT (sI s3 11 (0 : Int32)) 1 0 t' := g2.cg rfl rfl rfl rfl rfl rfl
    have gU : XT (sI u3 3 (0 : Int32)) 0 0 t' := g3.cg rfl rfl rfl rfl rfl rfl
    by_cases e0 : e = 0
    · subst e0
      have tt := g10 rfl
      subst tt
      refine read_end hC hI hR hO gX gU ?_ (fun c hc => ?_) (fun c hc => g5 c hc) g6 (fun c hc => ?_) (fun c hc => g8 c hc) rfl rfl
      · show s3.1 4 = _
        rw [g9, show nI (0 + 0) = 0 from rfl, Int32.add_zero]
      · rw [sI_ne (by omega)]; exact g4 c (by omega)
      · rw [sI_ne (by omega)]; exact g7 c (by omega)
    · refine h.mut (d := 0 + e) hk g1 gX gU ⟨fun c hc => ?_, fun c hc => g5 c (by omega)⟩ ⟨g7 12 (by omega), g8 3 (by omega), g8 4 (by omega), g8 15 (by omega)⟩ (by omega) (by omega) g9 (Or.inl (g4 9 (by omega))) ⟨0, fun _ => 0, by omega, rfl, rfl, fun i hi => absurd hi (Nat.not_lt_zero i)⟩
      by_cases c11 : c = 11
      · omega
      · rw [sI_ne c11]; exact g4 c (by omega)
  · have hr : r = (-100 : Int32) - nI f := by
      rcases b3 with ⟨w, -⟩ | ⟨f', w1, w2⟩
      · rw [z1] at w; cases w
      · rw [z1] at w1; cases w1; exact w2
    rw [z3, if_neg (m1_ne (by omega)), hr, if_pos (neg_f f (by omega)), nm_u, nm_u, nm_u]
    refine ⟨_, _, _, rfl, rfl, read_end hC hI hR hO (t := t) ?_ ?_ ?_ (fun c hc => ?_) (fun c hc => ?_) ?_ (fun c hc => ?_) (fun c hc => ?_) rfl rfl⟩
    · exact hX.cg (fr1.1 1 (by omega)) (fr1.1 2 (by omega)) (fr1.1 3 (by omega)) (by show s1.2.1 0 = _; rw [fr1.2]) (by show s1.2.1 1 = _; rw [fr1.2]) (by show s1.2.1 2 = _; rw [fr1.2])
    · exact hU.cg (fm1.1 0 (by omega)) (fm1.1 1 (by omega)) (fm1.1 2 (by omega)) (by show u1.2.1 0 = _; rw [fm1.2]) (by show u1.2.1 1 = _; rw [fm1.2]) (by show u1.2.1 2 = _; rw [fm1.2])
    · exact fr1.1 4 (by omega)
    · rw [sI_ne (by omega)]; exact fr1.1 c (by omega)
    · show s1.2.1 c = _; rw [fr1.2]
    · show s1.2.2 = _; rw [fr1.2]
    · rw [sI_ne (by omega)]; exact fm1.1 c (by omega)
    · show u1.2.1 c = _; rw [fm1.2]
