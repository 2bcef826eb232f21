/-! PURE 36: a statement of the tape -/
/-- the posts of a set, from p on -/
def sps (L : Nat) (c : Nat → Nat) : Nat → Nat → Nat → Nat ⊕ (Nat × Nat)
  | 0, o, p => .inr (o, p)
  | d + 1, o, p => if (decide (p < L) && decide (c p = 32)) = true then (match nmb L c 1 p with
    | .inl f => .inl f
    | .inr (v, q) => sps L c d (o ||| 2 ^ v) q) else .inr (o, p)
theorem sps_f {L : Nat} {c : Nat → Nat} {d o p : Nat} (h : ¬ (decide (p < L) && decide (c p = 32)) = true) : sps L c d o p = .inr (o, p) := by
  cases d with
  | zero => rfl
  | succ d =>
    unfold sps
    rw [if_neg h]
theorem sps_i {L : Nat} {c : Nat → Nat} {d o p f : Nat} (h : (decide (p < L) && decide (c p = 32)) = true) (e : nmb L c 1 p = .inl f) : sps L c (d + 1) o p = .inl f := by
  unfold sps
  rw [if_pos h, e]
theorem sps_r {L : Nat} {c : Nat → Nat} {d o p v q : Nat} (h : (decide (p < L) && decide (c p = 32)) = true) (e : nmb L c 1 p = .inr (v, q)) : sps L c (d + 1) o p = sps L c d (o ||| 2 ^ v) q := by
  conv => lhs; unfold sps
  rw [if_pos h, e]
/-- the class's walk over them -/
theorem takePosts_X {N L : Nat} {c : Nat → Nat} (hN : 300 < N) : ∀ d i o p k (s : ST), TX L c s → s.1 16 = nI p → p ≤ L → L ≤ p + d → i < p → d + 1 < k → s.1 17 = -1 → s.1 15 = nI o → o < 1024 → (∃ f, sps L c d o p = .inl f ∧ f ≤ L ∧ ∃ s', bd (X5_takePosts_L1 N k (nI i) s) (fun e13 => sm e13 (fun rv => some rv) fun e15 => some e15) = some s' ∧ s'.1 17 = nI f ∧ FrX s s') ∨ (∃ o' q, sps L c d o p = .inr (o', q) ∧ o' < 1024 ∧ p ≤ q ∧ q ≤ L ∧ ∃ s', bd (X5_takePosts_L1 N k (nI i) s) (fun e13 => sm e13 (fun rv => some rv) fun e15 => some e15) = some s' ∧ s'.1 17 = -1 ∧ s'.1 16 = nI q ∧ s'.1 15 = nI o' ∧ (∀ j, j ≠ 15 → j ≠ 16 → s'.1 j = s.1 j) ∧ s'.2 = s.2)
  | d, i, o, p, 0, s, _, _, _, _, _, h, _, _, _ => absurd h (Nat.not_lt_zero _)
  | d, i, o, p, k + 1, s, hT, hp, h1, h2, h3, h4, h5, h6, h7 => by
    have ⟨t1, t2, t3⟩ := hT
    rw [show X5_takePosts_L1 N (k + 1) (nI i) s = X5_takePosts_L1_b N (X5_takePosts_L1 N k) (nI i) s from rfl]
    unfold X5_takePosts_L1_b
    rw [if_pos h5, t2, if_neg (by rw [nI_lep (by omega) (by omega)]; omega), hp]
    by_cases q : p < L
    · obtain ⟨c1, c2, c3⟩ := t3 p q
      obtain ⟨d, rfl⟩ : ∃ e, d = e + 1 := ⟨d - 1, by omega⟩
      rw [if_neg (by rw [nI_lep (by omega) (by omega)]; omega), inb_t (show p < 120 by omega) (by omega), gd_t, nI_clamp (by omega), c1]
      by_cases g : c p = 32
      · have hg : (decide (p < L) && decide (c p = 32)) = true := by rw [decide_eq_true q, decide_eq_true g]; rfl
        rw [if_pos (by rw [g]; rfl), show (1 : Int32) = nI 1 from rfl]
        rcases takeNumber_X (m := 1) hN hT hp h1 h5 (Or.inl rfl) with ⟨f, e1, e2, s', e3, e4, e5, e6⟩ | ⟨v, q', e1, e2, e3, e4, e5, e6⟩
        · refine Or.inl ⟨f, sps_i hg e1, e2, ?_⟩
          rw [e3, bd2_s, nm_u, nm_u]
          obtain ⟨k, rfl⟩ : ∃ j, k = j + 1 := ⟨k - 1, by omega⟩
          have fr : FrX s (sI s' 15 (s.1 15 ||| nI 1 <<< ((0 : Int32) &&& 31))) := FrX.put ⟨fun j hj => e5 j (by omega) (by omega), e6⟩ _ (by omega) (by omega)
          have ef : (sI s' 15 (s.1 15 ||| nI 1 <<< ((0 : Int32) &&& 31))).1 17 = nI f := e4
          generalize sI s' 15 (s.1 15 ||| nI 1 <<< ((0 : Int32) &&& 31)) = w at fr ef ⊢
          refine ⟨w, ?_, ef, fr⟩
          rw [nI_add, show X5_takePosts_L1 N (k + 1) (nI (i + 1)) w = X5_takePosts_L1_b N (X5_takePosts_L1 N k) (nI (i + 1)) w from rfl]
          unfold X5_takePosts_L1_b
          rw [(hT.fr fr).2.1]
          by_cases z : L ≤ i + 1
          · rw [if_pos (by rw [nI_lep (by omega) (by omega)]; exact z), bd_s]; rfl
          · rw [if_neg (by rw [nI_lep (by omega) (by omega)]; exact z), if_neg (by rw [ef]; exact m1_ne (by omega)), bd_s]; rfl
        · have e3 := e3 rfl
          rw [sps_r hg e1, e6, bd2_s, nm_u, nm_u, h6, ← show (1 : Int32) = nI 1 from rfl, nx_shl1 (show v < 31 by omega), nx_or, nI_1]
          have ol : o ||| 2 ^ v < 2 ^ 10 := or_two_lt (n := 10) h7 (by omega)
          have fr : FrX s (sI (sI s 16 (nI q')) 15 (nI (o ||| 2 ^ v))) := ((FrX.rf s).put _ (by omega) (by omega)).put _ (by omega) (by omega)
          have ih := takePosts_X hN d (i + 1) (o ||| 2 ^ v) q' k (sI (sI s 16 (nI q')) 15 (nI (o ||| 2 ^ v))) (hT.fr fr) rfl e5 (by omega) (by omega) (by omega) h5 rfl ol
          rcases ih with ⟨f, a1, a2, s', a3, a4, a5⟩ | ⟨o', q2, a1, a2, a3, a4, s', a5, a6, a7, a8, a9, a10⟩
          · exact Or.inl ⟨f, a1, a2, s', a3, a4, fr.tr a5⟩
          · refine Or.inr ⟨o', q2, a1, a2, by omega, a4, s', a5, a6, a7, a8, fun j j1 j2 => ?_, a10⟩
            rw [a9 j j1 j2, sI_ne j1, sI_ne j2]
      · have hg : ¬ (decide (p < L) && decide (c p = 32)) = true := by rw [decide_eq_false g, Bool.and_false]; decide
        rw [if_neg (by rw [l32, nI_inj (by omega) (by omega)]; exact g), bd_s]
        exact Or.inr ⟨o, p, sps_f hg, h7, Nat.le_refl _, h1, s, rfl, h5, hp, h6, fun _ _ _ => rfl, rfl⟩
    · have hg : ¬ (decide (p < L) && decide (c p = 32)) = true := by rw [decide_eq_false q, Bool.false_and]; decide
      rw [if_pos (by rw [nI_lep (by omega) (by omega)]; omega), bd_s]
      exact Or.inr ⟨o, p, sps_f hg, h7, Nat.le_refl _, h1, s, rfl, h5, hp, h6, fun _ _ _ => rfl, rfl⟩
/-- the reference's -/
theorem readSet_M {L : Nat} {c : Nat → Nat} : ∀ d o p k (s : ST), TM L c s → s.1 4 = nI p → p ≤ L → L ≤ p + d → d < k → s.1 10 = nI o → (∃ f, sps L c d o p = .inl f ∧ ∃ s', bd (X7_readSet_L1 k s) (fun e12 => sm e12 (fun rv => some rv) fun e14 => some ((1 : Int32), e14)) = some ((0 : Int32), s') ∧ s'.1 5 = nI f ∧ FrM s s') ∨ (∃ o' q, sps L c d o p = .inr (o', q) ∧ ∃ s', bd (X7_readSet_L1 k s) (fun e12 => sm e12 (fun rv => some rv) fun e14 => some ((1 : Int32), e14)) = some ((1 : Int32), s') ∧ s'.1 4 = nI q ∧ s'.1 10 = nI o' ∧ s'.1 6 = s.1 6 ∧ FrM s s')
  | d, o, p, 0, s, _, _, _, _, h, _ => absurd h (Nat.not_lt_zero _)
  | d, o, p, k + 1, s, hT, hp, h1, h2, h3, h4 => by
    have ⟨t1, t2, t3⟩ := hT
    rw [show X7_readSet_L1 (k + 1) s = X7_readSet_L1_b (X7_readSet_L1 k) s from rfl]
    unfold X7_readSet_L1_b
    rw [l32, isHere_M (x := 32) hT hp (by omega) (by omega), bd_s]
    by_cases g : (decide (p < L) && decide (c p = 32)) = true
    · have g' := g
      rw [Bool.and_eq_true, decide_eq_true_iff] at g'
      obtain ⟨d, rfl⟩ : ∃ e, d = e + 1 := ⟨d - 1, by omega⟩
      rw [ib_t g]
      rcases readFigure_M hT hp h1 with ⟨f, e1, s', e2, e3, e4⟩ | ⟨v, q, e1, e2, e3, e4, s', e5, e6, e7, e8, e9⟩
      · refine Or.inl ⟨f, sps_i g e1, s', ?_, e3, e4⟩
        rw [e2, bd2_s, if_pos rfl, bd_s]; rfl
      · have dg : dgt (c (p + 1)) = true := by
          unfold nmb at e1
          rw [if_pos g] at e1
          by_cases d : (decide (p + 1 < L) && dgt (c (p + 1))) = true
          · rw [Bool.and_eq_true] at d; exact d.2
          · rw [if_neg d] at e1; cases e1
        have dv := dgt_t dg
        rw [sps_r g e1, e5, bd2_s, if_neg (by decide), nm_u, e7, e8 10 (by omega) (by omega), h4, nx_shl1 (show v < 31 by omega), nx_or]
        have fr : FrM s (sI s' 10 (nI (o ||| 2 ^ v))) := FrM.put ⟨fun j hj => e8 j (by omega) (by omega), e9⟩ _ (by omega) (by omega)
        have ih := readSet_M d (o ||| 2 ^ v) q k (sI s' 10 (nI (o ||| 2 ^ v))) (hT.fr fr) e6 e3 (by omega) (by omega) rfl
        rcases ih with ⟨f, a1, s2, a2, a3, a4⟩ | ⟨o', q2, a1, s2, a2, a3, a4, a5, a6⟩
        · exact Or.inl ⟨f, a1, s2, a2, a3, fr.tr a4⟩
        · exact Or.inr ⟨o', q2, a1, s2, a2, a3, a4, a5.trans (e8 6 (by omega) (by omega)), fr.tr a6⟩
    · rw [ib_f (by simpa using g), bd_s]
      exact Or.inr ⟨o, p, sps_f g, s, rfl, hp, h4, rfl, FrM.rf s⟩
/-- a statement: its fault, or word, numbers, posts, and where it ends -/
abbrev SR : Type := Nat ⊕ (Nat × Nat × Nat × Nat × Nat)
def stm2 (L : Nat) (c : Nat → Nat) (w a q : Nat) : SR := if w = 2 ∨ w = 3 ∨ w = 6 then (match nmb L c (if w = 6 then 2 else 1) q with
    | .inl f => .inl f
    | .inr (b, q2) => .inr (w, a, b, 0, q2)) else .inr (w, a, 0, 0, q)
def stm1 (L : Nat) (c : Nat → Nat) (w q : Nat) : SR := match nmb L c 1 q with
    | .inl f => .inl f
    | .inr (a, q1) => stm2 L c w a q1
def stm5 (L : Nat) (c : Nat → Nat) (q : Nat) : SR := match sps L c L 0 q with
    | .inl f => .inl f
    | .inr (o, q1) => .inr (5, 0, 0, o, q1)
def stm0 (L : Nat) (c : Nat → Nat) (p w q : Nat) : SR := if w = 0 then .inl p else if w = 5 then stm5 L c q else stm1 L c w q
def stm (L : Nat) (c : Nat → Nat) (p : Nat) : SR := stm0 L c p (wfd c p (skw L c L p)) (skw L c L p)
theorem stm0_0 {L p q : Nat} {c : Nat → Nat} : stm0 L c p 0 q = .inl p := rfl
theorem stm0_l {L p q f : Nat} {c : Nat → Nat} (h : sps L c L 0 q = .inl f) : stm0 L c p 5 q = .inl f := by
  show stm5 L c q = _
  unfold stm5
  rw [h]
theorem stm0_r {L p q o q1 : Nat} {c : Nat → Nat} (h : sps L c L 0 q = .inr (o, q1)) : stm0 L c p 5 q = .inr (5, 0, 0, o, q1) := by
  show stm5 L c q = _
  unfold stm5
  rw [h]
theorem stm0_i {L p q w f : Nat} {c : Nat → Nat} (w0 : w ≠ 0) (w5 : w ≠ 5) (h : nmb L c 1 q = .inl f) : stm0 L c p w q = .inl f := by
  unfold stm0 stm1
  rw [if_neg w0, if_neg w5, h]
theorem stm0_n {L p q w a q1 : Nat} {c : Nat → Nat} (w0 : w ≠ 0) (w5 : w ≠ 5) (h : nmb L c 1 q = .inr (a, q1)) : stm0 L c p w q = stm2 L c w a q1 := by
  unfold stm0 stm1
  rw [if_neg w0, if_neg w5, h]
theorem stm2_n {L w a q : Nat} {c : Nat → Nat} (h : ¬ (w = 2 ∨ w = 3 ∨ w = 6)) : stm2 L c w a q = .inr (w, a, 0, 0, q) := by
  unfold stm2
  rw [if_neg h]
theorem stm2_i {L w a q f : Nat} {c : Nat → Nat} (h : w = 2 ∨ w = 3 ∨ w = 6) (e : nmb L c (if w = 6 then 2 else 1) q = .inl f) : stm2 L c w a q = .inl f := by
  unfold stm2
  rw [if_pos h, e]
theorem stm2_r {L w a q b q2 : Nat} {c : Nat → Nat} (h : w = 2 ∨ w = 3 ∨ w = 6) (e : nmb L c (if w = 6 then 2 else 1) q = .inr (b, q2)) : stm2 L c w a q = .inr (w, a, b, 0, q2) := by
  unfold stm2
  rw [if_pos h, e]
theorem takeNumber_no {N : Nat} {s : ST} {f : Nat} {m : Int32} (h : s.1 17 = nI f) (hf : f < 2 ^ 31) : X5_takeNumber N s m = some ((0 : Int32), s) := by
  unfold X5_takeNumber
  rw [if_neg (by rw [h]; exact m1_ne hf)]
/-- the class takes a statement -/
def StX (N L : Nat) (c : Nat → Nat) (p : Nat) (s : ST) : Prop := (∃ f, stm L c p = .inl f ∧ f ≤ L ∧ ∃ s', X5_takeStatement N s = some s' ∧ s'.1 17 = nI f ∧ FrX s s') ∨ (∃ w a b o q, stm L c p = .inr (w, a, b, o, q) ∧ (1 ≤ w ∧ w ≤ 6) ∧ a < 100 ∧ b < 100 ∧ o < 1024 ∧ p + 1 < q ∧ q ≤ L ∧ ∃ s', X5_takeStatement N s = some s' ∧ s'.1 17 = -1 ∧ s'.1 16 = nI q ∧ s'.1 12 = nI w ∧ s'.1 13 = nI a ∧ s'.1 14 = nI b ∧ s'.1 15 = nI o ∧ FrX s s')
/-- what follows the word, on the class's side -/
theorem tail_X {N L p q0 w : Nat} {c : Nat → Nat} {s s5 : ST} (hN : 300 < N) (hT : TX L c s5) (h16 : s5.1 16 = nI q0) (h17 : s5.1 17 = -1) (h12 : s5.1 12 = nI w) (h13 : s5.1 13 = nI 0) (h14 : s5.1 14 = nI 0) (h15 : s5.1 15 = nI 0) (hq : q0 ≤ L) (hfr : FrX s s5) (hw : w ≤ 6) (hpq : w ≠ 0 → p + 1 < q0) (h1 : p ≤ L) (ew : wfd c p (skw L c L p) = w) (eq0 : skw L c L p = q0) (e0 : X5_takeStatement N s = if (s5.1 12) = (0 : Int32) then (
nm (sI s5 17 (nI p)) fun s23 =>
some s23)
else (
if (s5.1 12) = (5 : Int32) then (
bd (X5_takePosts N s5) fun s27 =>
some s27)
else (
bd2 (X5_takeNumber N s5 (1 : Int32)) fun r30 s29 =>
nm (sI s29 13 r30) fun s31 =>
if (s31.1 12) = (2 : Int32) then (
bd2 (X5_takeNumber N s31 (1 : Int32)) fun r36 s35 =>
nm (sI s35 14 r36) fun s37 =>
if (s37.1 12) = (6 : Int32) then (
bd2 (X5_takeNumber N s37 (2 : Int32)) fun r42 s41 =>
nm (sI s41 14 r42) fun s43 =>
some s43)
else (
some s37))
else (
if (s31.1 12) = (3 : Int32) then (
bd2 (X5_takeNumber N s31 (1 : Int32)) fun r54 s53 =>
nm (sI s53 14 r54) fun s55 =>
if (s55.1 12) = (6 : Int32) then (
bd2 (X5_takeNumber N s55 (2 : Int32)) fun r60 s59 =>
nm (sI s59 14 r60) fun s61 =>
some s61)
else (
some s55))
else (
if (s31.1 12) = (6 : Int32) then (
bd2 (X5_takeNumber N s31 (2 : Int32)) fun r49 s48 =>
nm (sI s48 14 r49) fun s50 =>
some s50)
else (
some s31)))))) : StX N L c p s := by
  unfold StX stm
  rw [e0, ew, eq0, h12]
  by_cases w0 : w = 0
  · subst w0
    rw [if_pos (show nI 0 = (0 : Int32) from rfl), nm_u, stm0_0]
    exact Or.inl ⟨p, rfl, h1, _, rfl, rfl, hfr.put _ (by omega) (by omega)⟩
  have hpq := hpq w0
  rw [if_neg (show ¬ nI w = (0 : Int32) by rw [nI_eq0 (by omega)]; exact w0)]
  by_cases w5 : w = 5
  · subst w5
    rw [if_pos (show nI 5 = (5 : Int32) from rfl)]
    have e : bd (X5_takePosts N s5) (fun s27 => some s27) = bd (X5_takePosts_L1 N N (nI 0) s5) (fun e13 => sm e13 (fun rv => some rv) fun e15 => some e15) := by
      rw [bd_some]
      rfl
    rw [e]
    rcases takePosts_X hN L 0 0 q0 N s5 hT h16 hq (by omega) (by omega) (by have := hT.1; omega) h17 h15 (by omega) with ⟨f, a1, a2, s', a3, a4, a5⟩ | ⟨o, q, a1, a2, a3, a4, s', a5, a6, a7, a8, a9, a10⟩
    · exact Or.inl ⟨f, stm0_l a1, a2, s', a3, a4, hfr.tr a5⟩
    · refine Or.inr ⟨5, 0, 0, o, q, stm0_r a1, by omega, by omega, by omega, a2, by omega, a4, s', a5, a6, a7, ?_, ?_, ?_, a8, hfr.tr ⟨fun j hj => a9 j (by omega) (by omega), a10⟩⟩
      · rw [a9 12 (by omega) (by omega)]; exact h12
      · rw [a9 13 (by omega) (by omega)]; exact h13
      · rw [a9 14 (by omega) (by omega)]; exact h14
  rw [if_neg (show ¬ nI w = (5 : Int32) by rw [show (5 : Int32) = nI 5 from rfl, nI_inj (by omega) (by omega)]; exact w5), l1]
  have n2 : (nI w = (2 : Int32)) = (w = 2) := nI_inj (a := w) (b := 2) (by omega) (by omega)
  have n3 : (nI w = (3 : Int32)) = (w = 3) := nI_inj (a := w) (b := 3) (by omega) (by omega)
  have n6 : (nI w = (6 : Int32)) = (w = 6) := nI_inj (a := w) (b := 6) (by omega) (by omega)
  rcases takeNumber_X (m := 1) hN hT h16 hq h17 (Or.inl rfl) with ⟨f, a1, a2, s6, a3, a4, a5, a6⟩ | ⟨a, q1, a1, a2, -, a3, a4, a5⟩
  · refine Or.inl ⟨f, stm0_i w0 w5 a1, a2, ?_⟩
    have fr6 : FrX s (sI s6 13 (0 : Int32)) := (hfr.tr ⟨fun j hj => a5 j (by omega) (by omega), a6⟩).put _ (by omega) (by omega)
    have f6 : (sI s6 13 (0 : Int32)).1 17 = nI f := a4
    have w6 : (sI s6 13 (0 : Int32)).1 12 = nI w := (a5 12 (by omega) (by omega)).trans h12
    have hf : f < 2 ^ 31 := by have := hT.1; omega
    rw [a3, bd2_s, nm_u]
    generalize sI s6 13 (0 : Int32) = s7 at fr6 f6 w6 ⊢
    have w8 : (sI s7 14 (0 : Int32)).1 12 = nI w := w6
    have f8 : (sI s7 14 (0 : Int32)).1 17 = nI f := f6
    have fr8 : FrX s (sI s7 14 (0 : Int32)) := fr6.put _ (by omega) (by omega)
    have f9 : (sI (sI s7 14 (0 : Int32)) 14 (0 : Int32)).1 17 = nI f := f6
    have fr9 : FrX s (sI (sI s7 14 (0 : Int32)) 14 (0 : Int32)) := fr8.put _ (by omega) (by omega)
    simp only [takeNumber_no f6 hf, takeNumber_no f8 hf, bd2_s, nm_u, w6, w8, n2, n3, n6]
    by_cases q2 : w = 2
    · rw [if_pos q2, if_neg (show ¬ w = 6 by omega)]
      exact ⟨_, rfl, f8, fr8⟩
    rw [if_neg q2]
    by_cases q3 : w = 3
    · rw [if_pos q3, if_neg (show ¬ w = 6 by omega)]
      exact ⟨_, rfl, f8, fr8⟩
    rw [if_neg q3]
    by_cases q6 : w = 6
    · rw [if_pos q6]
      exact ⟨_, rfl, f8, fr8⟩
    rw [if_neg q6]
    exact ⟨_, rfl, f6, fr6⟩
  · have fr6 : FrX s (sI (sI s5 16 (nI q1)) 13 (nI a)) := (hfr.put _ (by omega) (by omega)).put _ (by omega) (by omega)
    have fr56 : FrX s5 (sI (sI s5 16 (nI q1)) 13 (nI a)) := ((FrX.rf s5).put _ (by omega) (by omega)).put _ (by omega) (by omega)
    have x16 : (sI (sI s5 16 (nI q1)) 13 (nI a)).1 16 = nI q1 := rfl
    have x17 : (sI (sI s5 16 (nI q1)) 13 (nI a)).1 17 = -1 := h17
    have x12 : (sI (sI s5 16 (nI q1)) 13 (nI a)).1 12 = nI w := h12
    have x13 : (sI (sI s5 16 (nI q1)) 13 (nI a)).1 13 = nI a := rfl
    have x14 : (sI (sI s5 16 (nI q1)) 13 (nI a)).1 14 = nI 0 := h14
    have x15 : (sI (sI s5 16 (nI q1)) 13 (nI a)).1 15 = nI 0 := h15
    have T6 := hT.fr fr56
    rw [a5, bd2_s, nm_u, stm0_n w0 w5 a1]
    generalize sI (sI s5 16 (nI q1)) 13 (nI a) = s6 at fr6 x16 x17 x12 x13 x14 x15 T6 ⊢
    rw [x12]
    -- a second number, or none
    have two : ∀ m, (m = 1 ∨ m = 2) → (w = 2 ∨ w = 3 ∨ w = 6) → m = (if w = 6 then 2 else 1) → ∀ (op : Option ST), op = (bd2 (X5_takeNumber N s6 (nI m)) fun r x => some (sI x 14 r)) → ((∃ f, stm2 L c w a q1 = .inl f ∧ f ≤ L ∧ ∃ s', op = some s' ∧ s'.1 17 = nI f ∧ FrX s s') ∨ (∃ w' a' b o q, stm2 L c w a q1 = .inr (w', a', b, o, q) ∧ (1 ≤ w' ∧ w' ≤ 6) ∧ a' < 100 ∧ b < 100 ∧ o < 1024 ∧ p + 1 < q ∧ q ≤ L ∧ ∃ s', op = some s' ∧ s'.1 17 = -1 ∧ s'.1 16 = nI q ∧ s'.1 12 = nI w' ∧ s'.1 13 = nI a' ∧ s'.1 14 = nI b ∧ s'.1 15 = nI o ∧ FrX s s')) := by
      intro m hm hw3 em op eo
      rcases takeNumber_X hN T6 x16 a4 x17 hm with ⟨f, b1, b2, s7, b3, b4, b5, b6⟩ | ⟨b, q2, b1, b2, -, b3, b4, b5⟩
      · refine Or.inl ⟨f, stm2_i hw3 (by rw [← em]; exact b1), b2, sI s7 14 (0 : Int32), ?_, b4, (fr6.tr ⟨fun j hj => b5 j (by omega) (by omega), b6⟩).put _ (by omega) (by omega)⟩
        rw [eo, b3, bd2_s]
      · refine Or.inr ⟨w, a, b, 0, q2, stm2_r hw3 (by rw [← em]; exact b1), by omega, a2, b2, by omega, by omega, b4, sI (sI s6 16 (nI q2)) 14 (nI b), ?_, x17, rfl, x12, x13, rfl, x15, (fr6.put _ (by omega) (by omega)).put _ (by omega) (by omega)⟩
        rw [eo, b5, bd2_s]
    have tn12 : ∀ m : Nat, (m = 1 ∨ m = 2) → ∀ r x, X5_takeNumber N s6 (nI m) = some (r, x) → (sI x 14 r).1 12 = nI w := by
      intro m hm r x e
      rcases takeNumber_X hN T6 x16 a4 x17 hm with ⟨f, b1, b2, s7, b3, b4, b5, b6⟩ | ⟨b, q2, b1, b2, -, b3, b4, b5⟩
      · rw [b3] at e
        cases e
        exact (b5 12 (by omega) (by omega)).trans x12
      · rw [b5] at e
        cases e
        exact x12
    have notail : w ≠ 6 → ∀ m, (m = 1 ∨ m = 2) → (bd2 (X5_takeNumber N s6 (nI m)) fun r36 s35 => nm (sI s35 14 r36) fun s37 => if (s37.1 12) = (6 : Int32) then (bd2 (X5_takeNumber N s37 (2 : Int32)) fun r42 s41 => nm (sI s41 14 r42) fun s43 => some s43) else (some s37)) = (bd2 (X5_takeNumber N s6 (nI m)) fun r x => some (sI x 14 r)) := by
      intro w6 m hm
      cases e : X5_takeNumber N s6 (nI m) with
      | none => rfl
      | some y =>
        obtain ⟨r, x⟩ := y
        rw [bd2_s, bd2_s, nm_u, tn12 m hm r x e, if_neg (show ¬ nI w = (6 : Int32) by rw [n6]; exact w6)]
    by_cases w2 : w = 2
    · rw [if_pos (show nI w = (2 : Int32) by rw [n2]; exact w2)]
      exact two 1 (Or.inl rfl) (Or.inl w2) (by rw [if_neg (by omega)]) _ (notail (by omega) 1 (Or.inl rfl))
    rw [if_neg (show ¬ nI w = (2 : Int32) by rw [n2]; exact w2)]
    by_cases w3 : w = 3
    · rw [if_pos (show nI w = (3 : Int32) by rw [n3]; exact w3)]
      exact two 1 (Or.inl rfl) (Or.inr (Or.inl w3)) (by rw [if_neg (by omega)]) _ (notail (by omega) 1 (Or.inl rfl))
    rw [if_neg (show ¬ nI w = (3 : Int32) by rw [n3]; exact w3)]
    by_cases w6 : w = 6
    · rw [if_pos (show nI w = (6 : Int32) by rw [n6]; exact w6)]
      exact two 2 (Or.inr rfl) (Or.inr (Or.inr w6)) (by rw [if_pos w6]) _ rfl
    rw [if_neg (show ¬ nI w = (6 : Int32) by rw [n6]; exact w6)]
    exact Or.inr ⟨w, a, 0, 0, q1, stm2_n (by omega), by omega, a2, by omega, by omega, by omega, a4, s6, rfl, x17, x16, x12, x13, x14, x15, fr6⟩
theorem stm_X {N L p : Nat} {c : Nat → Nat} {s : ST} (hN : 300 < N) (hT : TX L c s) (hp : s.1 16 = nI p) (h1 : p ≤ L) (hf : s.1 17 = -1) : StX N L c p s := by
  have hL := hT.1
  obtain ⟨k1, k2⟩ := skw_in (c := c) (d := L) h1
  have fr1 : FrX s (sI s 16 (nI (skw L c L p))) := (FrX.rf s).put _ (by omega) (by omega)
  have e1 := skw_X L p N s hT hp h1 (by omega) (by omega)
  have e2 := X5_wordFrom_v (N := N) (p := p) hN (hT.fr fr1) rfl k1 k2
  have fr5 : FrX s (sI (sI (sI (sI (sI s 16 (nI (skw L c L p))) 12 (nI (wfd c p (skw L c L p)))) 13 (0 : Int32)) 14 (0 : Int32)) 15 (0 : Int32)) := (((fr1.put _ (by omega) (by omega)).put _ (by omega) (by omega)).put _ (by omega) (by omega)).put _ (by omega) (by omega)
  refine tail_X (N := N) (w := wfd c p (skw L c L p)) (q0 := skw L c L p) hN (hT.fr fr5) rfl hf rfl rfl rfl rfl k2 fr5 (wfd_le _ _ _) (fun z => ?_) h1 rfl rfl ?_
  · have := wfd_lt2 z
    omega
  · unfold X5_takeStatement
    rw [nm_u, e1, bd_s, hp, e2, bd_s, nm_u, nm_u, nm_u, nm_u]
