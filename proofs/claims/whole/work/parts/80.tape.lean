/-! PURE 35: the tape read: words, numbers, sets of posts: one value for both sides -/
def ltr (x : Nat) : Bool := decide (97 ≤ x ∧ x ≤ 122)
def dgt (x : Nat) : Bool := decide (48 ≤ x ∧ x ≤ 57)
/-- where the word ends -/
def skw (L : Nat) (c : Nat → Nat) : Nat → Nat → Nat
  | 0, p => p
  | d + 1, p => if (decide (p < L) && ltr (c p)) = true then skw L c d (p + 1) else p
theorem skw_s (L : Nat) (c : Nat → Nat) (d p : Nat) : skw L c (d + 1) p = if (decide (p < L) && ltr (c p)) = true then skw L c d (p + 1) else p := rfl
theorem skw_in {L : Nat} {c : Nat → Nat} : ∀ {d p : Nat}, p ≤ L → p ≤ skw L c d p ∧ skw L c d p ≤ L
  | 0, p, h => ⟨Nat.le_refl _, h⟩
  | d + 1, p, h => by
    rw [skw_s]
    by_cases q : p < L
    · rw [decide_eq_true q, Bool.true_and]
      split
      · have := skw_in (c := c) (d := d) (p := p + 1) (L := L) (by omega)
        omega
      · exact ⟨Nat.le_refl _, h⟩
    · rw [decide_eq_false q, if_neg (by rw [Bool.false_and]; decide)]
      exact ⟨Nat.le_refl _, h⟩
/-- is word k what stands from p to q -/
def wmt (c : Nat → Nat) (k p q : Nat) : Bool := decide (q - p = (wd k).length) && (List.range (wd k).length).all fun i => decide (nI (c (p + i)) = (wd k).getD i 0)
/-- which word: 1 and on, 0 for none -/
def wfd (c : Nat → Nat) (p q : Nat) : Nat := if wmt c 0 p q = true then 1 else if wmt c 1 p q = true then 2 else if wmt c 2 p q = true then 3 else if wmt c 3 p q = true then 4 else if wmt c 4 p q = true then 5 else if wmt c 5 p q = true then 6 else 0
theorem wd_len2 : ∀ k, k < 6 → 2 ≤ (wd k).length := by decide
theorem wfd_le (c : Nat → Nat) (p q : Nat) : wfd c p q ≤ 6 := by
  unfold wfd
  repeat' split
  all_goals omega
theorem wmt_lt2 {c : Nat → Nat} {k p q : Nat} (hk : k < 6) (h : wmt c k p q = true) : p + 2 ≤ q := by
  unfold wmt at h
  rw [Bool.and_eq_true, decide_eq_true_iff] at h
  have := wd_len2 k hk
  omega
theorem wfd_lt2 {c : Nat → Nat} {p q : Nat} (h : wfd c p q ≠ 0) : p + 2 ≤ q := by
  unfold wfd at h
  by_cases h0 : wmt c 0 p q = true
  · exact wmt_lt2 (by omega) h0
  by_cases h1 : wmt c 1 p q = true
  · exact wmt_lt2 (by omega) h1
  by_cases h2 : wmt c 2 p q = true
  · exact wmt_lt2 (by omega) h2
  by_cases h3 : wmt c 3 p q = true
  · exact wmt_lt2 (by omega) h3
  by_cases h4 : wmt c 4 p q = true
  · exact wmt_lt2 (by omega) h4
  by_cases h5 : wmt c 5 p q = true
  · exact wmt_lt2 (by omega) h5
  rw [if_neg h0, if_neg h1, if_neg h2, if_neg h3, if_neg h4, if_neg h5] at h
  exact absurd rfl h
/-- the tape, on either side -/
def TX (L : Nat) (c : Nat → Nat) (s : ST) : Prop := L ≤ 120 ∧ s.1 11 = nI L ∧ ∀ i, i < L → s.2.1 15 i = nI (c i) ∧ 32 ≤ c i ∧ c i ≤ 126
def TM (L : Nat) (c : Nat → Nat) (s : ST) : Prop := L ≤ 120 ∧ s.1 3 = nI L ∧ ∀ i, i < L → s.2.1 6 i = nI (c i) ∧ 32 ≤ c i ∧ c i ≤ 126
/-- what a reader may write -/
def FrX (s s' : ST) : Prop := (∀ c, c < 12 ∨ 17 < c → s'.1 c = s.1 c) ∧ s'.2 = s.2
def FrM (s s' : ST) : Prop := (∀ c, c < 4 ∨ 10 < c → s'.1 c = s.1 c) ∧ s'.2 = s.2
theorem FrX.rf (s : ST) : FrX s s := ⟨fun _ _ => rfl, rfl⟩
theorem FrM.rf (s : ST) : FrM s s := ⟨fun _ _ => rfl, rfl⟩
theorem FrX.tr {a b c : ST} (h : FrX a b) (g : FrX b c) : FrX a c := ⟨fun j hj => (g.1 j hj).trans (h.1 j hj), g.2.trans h.2⟩
theorem FrM.tr {a b c : ST} (h : FrM a b) (g : FrM b c) : FrM a c := ⟨fun j hj => (g.1 j hj).trans (h.1 j hj), g.2.trans h.2⟩
theorem FrX.put {a b : ST} (h : FrX a b) {j : Nat} (v : Int32) (h1 : 12 ≤ j) (h2 : j ≤ 17) : FrX a (sI b j v) := ⟨fun c hc => by rw [sI_ne (by omega)]; exact h.1 c hc, h.2⟩
theorem FrM.put {a b : ST} (h : FrM a b) {j : Nat} (v : Int32) (h1 : 4 ≤ j) (h2 : j ≤ 10) : FrM a (sI b j v) := ⟨fun c hc => by rw [sI_ne (by omega)]; exact h.1 c hc, h.2⟩
theorem TX.fr {L : Nat} {c : Nat → Nat} {s s' : ST} (h : TX L c s) (g : FrX s s') : TX L c s' := ⟨h.1, (g.1 11 (by omega)).trans h.2.1, by rw [g.2]; exact h.2.2⟩
theorem TM.fr {L : Nat} {c : Nat → Nat} {s s' : ST} (h : TM L c s) (g : FrM s s') : TM L c s' := ⟨h.1, (g.1 3 (by omega)).trans h.2.1, by rw [g.2]; exact h.2.2⟩
theorem l97 : (97 : Int32) = nI 97 := rfl
theorem l122 : (122 : Int32) = nI 122 := rfl
theorem l48 : (48 : Int32) = nI 48 := rfl
theorem l57 : (57 : Int32) = nI 57 := rfl
theorem l32 : (32 : Int32) = nI 32 := rfl
theorem l59 : (59 : Int32) = nI 59 := rfl
theorem skw_X {L : Nat} {c : Nat → Nat} : ∀ d p k (s : ST), TX L c s → s.1 16 = nI p → p ≤ L → L ≤ p + d → d < k → X5_takeStatement_L1 k s = some (sI s 16 (nI (skw L c d p)))
  | d, p, 0, s, _, _, _, _, h => absurd h (Nat.not_lt_zero d)
  | d, p, k + 1, s, hT, hp, h1, h2, h3 => by
    have ⟨t1, t2, t3⟩ := hT
    show X5_takeStatement_L1_b (X5_takeStatement_L1 k) s = _
    unfold X5_takeStatement_L1_b
    rw [t2, hp]
    by_cases q : p < L
    · obtain ⟨c1, c2, c3⟩ := t3 p q
      obtain ⟨d, rfl⟩ : ∃ e, d = e + 1 := ⟨d - 1, by omega⟩
      rw [if_neg (by rw [nI_lep (by omega) (by omega)]; omega), inb_t (show p < 120 by omega) (by omega), gd_t, nI_clamp (by omega), c1, skw_s, decide_eq_true q, Bool.true_and]
      by_cases g1 : c p < 97
      · rw [if_pos (by rw [l97, nI_ltp (by omega) (by omega)]; exact g1), show ltr (c p) = false from decide_eq_false (by omega), if_neg (by decide), ← hp, sI_id]
      · rw [if_neg (by rw [l97, nI_ltp (by omega) (by omega)]; exact g1), gd_t]
        by_cases g2 : 122 < c p
        · rw [if_pos (by rw [l122, nI_ltp (by omega) (by omega)]; exact g2), show ltr (c p) = false from decide_eq_false (by omega), if_neg (by decide), ← hp, sI_id]
        · rw [if_neg (by rw [l122, nI_ltp (by omega) (by omega)]; exact g2), show ltr (c p) = true from decide_eq_true (by omega), if_pos rfl, nm_u, nI_1]
          rw [skw_X d (p + 1) k (sI s 16 (nI (p + 1))) (hT.fr ((FrX.rf s).put _ (by omega) (by omega))) rfl (by omega) (by omega) (by omega), sI_sI]
    · rw [if_pos (by rw [nI_lep (by omega) (by omega)]; omega)]
      have e : skw L c d p = p := by
        cases d with
        | zero => rfl
        | succ d => rw [skw_s, decide_eq_false q, if_neg (by rw [Bool.false_and]; decide)]
      rw [e, ← hp, sI_id]
theorem skw_M {L : Nat} {c : Nat → Nat} : ∀ d p k (s : ST), TM L c s → s.1 4 = nI p → p ≤ L → L ≤ p + d → d < k → X7_readWord_L1 k s = some (sI s 4 (nI (skw L c d p)))
  | d, p, 0, s, _, _, _, _, h => absurd h (Nat.not_lt_zero d)
  | d, p, k + 1, s, hT, hp, h1, h2, h3 => by
    have ⟨t1, t2, t3⟩ := hT
    show X7_readWord_L1_b (X7_readWord_L1 k) s = _
    unfold X7_readWord_L1_b
    rw [t2, hp]
    by_cases q : p < L
    · obtain ⟨c1, c2, c3⟩ := t3 p q
      obtain ⟨d, rfl⟩ : ∃ e, d = e + 1 := ⟨d - 1, by omega⟩
      have e7 : X7_in (nI (c p)) (97 : Int32) (122 : Int32) = some (bI (ltr (c p))) := by
        refine Eq.trans (X7_in_v (a := 97) (b := 122) (by omega) (by omega)) ?_
        unfold ltr
        rw [nI_toInt (by omega)]
        congr 2
        exact decide_eq_decide.mpr ⟨fun h => by omega, fun h => by omega⟩
      rw [if_neg (by rw [nI_lep (by omega) (by omega)]; omega), inb_t (show p < 120 by omega) (by omega), gd_t, nI_clamp (by omega), c1, e7, bd_s, skw_s, decide_eq_true q, Bool.true_and]
      cases g : ltr (c p) with
      | false => rw [ib_f rfl, if_neg (by decide), ← hp, sI_id]
      | true =>
        rw [ib_t rfl, if_pos rfl, nm_u, nI_1]
        rw [skw_M d (p + 1) k (sI s 4 (nI (p + 1))) (hT.fr ((FrM.rf s).put _ (by omega) (by omega))) rfl (by omega) (by omega) (by omega), sI_sI]
    · rw [if_pos (by rw [nI_lep (by omega) (by omega)]; omega)]
      have e : skw L c d p = p := by
        cases d with
        | zero => rfl
        | succ d => rw [skw_s, decide_eq_false q, if_neg (by rw [Bool.false_and]; decide)]
      rw [e, ← hp, sI_id]
theorem X5_isWord_v {N k p q L : Nat} {s : ST} {c : Nat → Nat} (hN : 300 < N) (hk : k < 6) (hq : s.1 16 = nI q) (h1 : p ≤ q) (h2 : q ≤ L) (hL : L ≤ 120) (hc : ∀ i, i < L → s.2.1 15 i = nI (c i)) : X5_isWord N s k (nI p) = some (bI (wmt c k p q)) := by
  obtain ⟨f1, f2, -⟩ := tx_facts k (by omega)
  unfold X5_isWord wmt
  rw [txlen_v (by omega), bd_s, hq, pk_sub h1]
  by_cases g : q - p = (wd k).length
  · have h := loopSearch (F := fun j i => X5_isWord_L1 s k (nI p) j (nI i)) (wd k).length (fun i => !decide (nI (c (p + i)) = (wd k).getD i 0)) (fun _ => Sum.inl (0 : Int32)) (Sum.inr ()) (fun j i hi => by
      show X5_isWord_L1_b s k (nI p) (X5_isWord_L1 s k (nI p) j) (nI i) = _
      unfold X5_isWord_L1_b
      rw [txlen_v (by omega), bd_s, if_neg (by rw [nI_lep (by omega) (by omega)]; omega), nI_add, inb_t (show p + i < 120 by omega) (by omega), gd_t, txat_v (by omega) hi, bd_s, nI_clamp (by omega), hc (p + i) (by omega)]
      by_cases w : nI (c (p + i)) = (wd k).getD i 0
      · rw [if_pos w, decide_eq_true w, nm_u, nI_1]; rfl
      · rw [if_neg w, decide_eq_false w]; rfl) (fun j => by
      show X5_isWord_L1_b s k (nI p) (X5_isWord_L1 s k (nI p) j) (nI (wd k).length) = _
      unfold X5_isWord_L1_b
      rw [txlen_v (by omega), bd_s, if_pos (by rw [nI_lep (by omega) (by omega)]; exact Nat.le_refl _)]) (k := N) (by omega)
    rw [if_pos (by rw [g]), decide_eq_true g, Bool.true_and, l0]
    rcases h with ⟨i, i1, i2, -, e⟩ | ⟨i1, e⟩
    · rw [e, bd_s]
      have : (List.range (wd k).length).all (fun i => decide (nI (c (p + i)) = (wd k).getD i 0)) = false := by
        cases z : (List.range (wd k).length).all (fun i => decide (nI (c (p + i)) = (wd k).getD i 0)) with
        | false => rfl
        | true =>
          have this : decide (nI (c (p + i)) = (wd k).getD i 0) = true := List.all_eq_true.mp z i (List.mem_range.mpr i1)
          rw [this] at i2; exact absurd i2 (by decide)
      rw [← l0, this]; rfl
    · rw [e, bd_s]
      have : (List.range (wd k).length).all (fun i => decide (nI (c (p + i)) = (wd k).getD i 0)) = true := List.all_eq_true.mpr fun i hi => by
        have := i1 i (List.mem_range.mp hi)
        simpa using this
      rw [← l0, this]; rfl
  · rw [if_neg (by rw [nI_inj (by omega) (by omega)]; exact g), decide_eq_false g]; rfl
theorem X7_isWordFrom_v {N k p q L : Nat} {s : ST} {c : Nat → Nat} (hN : 300 < N) (hk : k < 6) (hq : s.1 4 = nI q) (h1 : p ≤ q) (h2 : q ≤ L) (hL : L ≤ 120) (hc : ∀ i, i < L → s.2.1 6 i = nI (c i)) : X7_isWordFrom N s (nI p) k = some (bI (wmt c k p q)) := by
  obtain ⟨f1, f2, -⟩ := tx_facts k (by omega)
  unfold X7_isWordFrom wmt
  rw [txlen_v (by omega), bd_s, hq, pk_sub h1]
  by_cases g : q - p = (wd k).length
  · have h := loopSearch (F := fun j i => X7_isWordFrom_L1 s (nI p) k j (nI i)) (wd k).length (fun i => !decide (nI (c (p + i)) = (wd k).getD i 0)) (fun _ => Sum.inl (0 : Int32)) (Sum.inr ()) (fun j i hi => by
      show X7_isWordFrom_L1_b s (nI p) k (X7_isWordFrom_L1 s (nI p) k j) (nI i) = _
      unfold X7_isWordFrom_L1_b
      rw [txlen_v (by omega), bd_s, if_neg (by rw [nI_lep (by omega) (by omega)]; omega), nI_add, inb_t (show p + i < 120 by omega) (by omega), gd_t, txat_v (by omega) hi, bd_s, nI_clamp (by omega), hc (p + i) (by omega)]
      by_cases w : nI (c (p + i)) = (wd k).getD i 0
      · rw [if_pos w, decide_eq_true w, nm_u, nI_1]; rfl
      · rw [if_neg w, decide_eq_false w]; rfl) (fun j => by
      show X7_isWordFrom_L1_b s (nI p) k (X7_isWordFrom_L1 s (nI p) k j) (nI (wd k).length) = _
      unfold X7_isWordFrom_L1_b
      rw [txlen_v (by omega), bd_s, if_pos (by rw [nI_lep (by omega) (by omega)]; exact Nat.le_refl _)]) (k := N) (by omega)
    rw [if_pos (by rw [g]), decide_eq_true g, Bool.true_and, l0]
    rcases h with ⟨i, i1, i2, -, e⟩ | ⟨i1, e⟩
    · rw [e, bd_s]
      have : (List.range (wd k).length).all (fun i => decide (nI (c (p + i)) = (wd k).getD i 0)) = false := by
        cases z : (List.range (wd k).length).all (fun i => decide (nI (c (p + i)) = (wd k).getD i 0)) with
        | false => rfl
        | true =>
          have this : decide (nI (c (p + i)) = (wd k).getD i 0) = true := List.all_eq_true.mp z i (List.mem_range.mpr i1)
          rw [this] at i2; exact absurd i2 (by decide)
      rw [← l0, this]; rfl
    · rw [e, bd_s]
      have : (List.range (wd k).length).all (fun i => decide (nI (c (p + i)) = (wd k).getD i 0)) = true := List.all_eq_true.mpr fun i hi => by
        have := i1 i (List.mem_range.mp hi)
        simpa using this
      rw [← l0, this]; rfl
  · rw [if_neg (by rw [nI_inj (by omega) (by omega)]; exact g), decide_eq_false g]; rfl
theorem X5_wordFrom_v {N p q L : Nat} {s : ST} {c : Nat → Nat} (hN : 300 < N) (hT : TX L c s) (hq : s.1 16 = nI q) (h1 : p ≤ q) (h2 : q ≤ L) : X5_wordFrom N s (nI p) = some (nI (wfd c p q)) := by
  have h := fun k (hk : k < 6) => X5_isWord_v (N := N) (k := k) hN hk hq h1 h2 hT.1 (fun i hi => (hT.2.2 i hi).1)
  unfold X5_wordFrom wfd
  rw [h 0 (by omega), bd_s]
  cases wmt c 0 p q with
  | true => rw [ib_t rfl, if_pos rfl]; rfl
  | false =>
    rw [ib_f rfl, if_neg (by decide), h 1 (by omega), bd_s]
    cases wmt c 1 p q with
    | true => rw [ib_t rfl, if_pos rfl]; rfl
    | false =>
      rw [ib_f rfl, if_neg (by decide), h 2 (by omega), bd_s]
      cases wmt c 2 p q with
      | true => rw [ib_t rfl, if_pos rfl]; rfl
      | false =>
        rw [ib_f rfl, if_neg (by decide), h 3 (by omega), bd_s]
        cases wmt c 3 p q with
        | true => rw [ib_t rfl, if_pos rfl]; rfl
        | false =>
          rw [ib_f rfl, if_neg (by decide), h 4 (by omega), bd_s]
          cases wmt c 4 p q with
          | true => rw [ib_t rfl, if_pos rfl]; rfl
          | false =>
            rw [ib_f rfl, if_neg (by decide), h 5 (by omega), bd_s]
            cases wmt c 5 p q with
            | true => rw [ib_t rfl, if_pos rfl]; rfl
            | false => rw [ib_f rfl, if_neg (by decide)]; rfl
theorem readWord_s {N p q L w k : Nat} {e : ST} {c : Nat → Nat} (hN : 300 < N) (hT : TM L c e) (hq : e.1 4 = nI q) (h1 : p ≤ q) (h2 : q ≤ L) (hw : w < 6) : X7_readWord_L2 N (nI p) (k + 1) (sI e 6 (nI w)) = if wmt c w p q = true then some (Sum.inl ((1 : Int32), sI e 6 (nI w))) else X7_readWord_L2 N (nI p) k (sI e 6 (nI (w + 1))) := by
  show X7_readWord_L2_b N (nI p) (X7_readWord_L2 N (nI p) k) (sI e 6 (nI w)) = _
  unfold X7_readWord_L2_b
  rw [sI_at, if_neg (by rw [show (5 : Int32) = nI 5 from rfl, nI_ltp (by omega) (by omega)]; omega), wordOf_v w hw, bd_s, X7_isWordFrom_v (L := L) (c := c) (s := sI e 6 (nI w)) hN hw hq h1 h2 hT.1 (fun i hi => (hT.2.2 i hi).1), bd_s, nI_1, sI_sI]
  cases wmt c w p q with
  | true => rw [ib_t rfl, if_pos rfl]
  | false => rw [ib_f rfl, if_neg (by decide), nm_u]
theorem no_ft : ¬ (false = true) := by decide
theorem readWord_L2v {N p q L : Nat} {e : ST} {c : Nat → Nat} (hN : 300 < N) (hT : TM L c e) (hq : e.1 4 = nI q) (h1 : p ≤ q) (h2 : q ≤ L) : X7_readWord_L2 N (nI p) N (sI e 6 (nI 0)) = some (if wfd c p q = 0 then Sum.inr (sI e 6 (nI 6)) else Sum.inl ((1 : Int32), sI e 6 (nI (wfd c p q - 1)))) := by
  have st := fun w k (hw : w < 6) => readWord_s (N := N) (w := w) (k := k) hN hT hq h1 h2 hw
  obtain ⟨m, hm⟩ : ∃ m, N = m + 1 + 1 + 1 + 1 + 1 + 1 + 1 := ⟨N - 7, by omega⟩
  have goal : X7_readWord_L2 N (nI p) (m + 1 + 1 + 1 + 1 + 1 + 1 + 1) (sI e 6 (nI 0)) = some (if wfd c p q = 0 then Sum.inr (sI e 6 (nI 6)) else Sum.inl ((1 : Int32), sI e 6 (nI (wfd c p q - 1)))) := by
    unfold wfd
    rw [st 0 _ (by omega)]
    cases wmt c 0 p q with
    | true => rfl
    | false =>
      rw [if_neg no_ft, if_neg no_ft, st 1 _ (by omega)]
      cases wmt c 1 p q with
      | true => rfl
      | false =>
        rw [if_neg no_ft, if_neg no_ft, st 2 _ (by omega)]
        cases wmt c 2 p q with
        | true => rfl
        | false =>
          rw [if_neg no_ft, if_neg no_ft, st 3 _ (by omega)]
          cases wmt c 3 p q with
          | true => rfl
          | false =>
            rw [if_neg no_ft, if_neg no_ft, st 4 _ (by omega)]
            cases wmt c 4 p q with
            | true => rfl
            | false =>
              rw [if_neg no_ft, if_neg no_ft, st 5 _ (by omega)]
              cases wmt c 5 p q with
              | true => rfl
              | false =>
                rw [if_neg no_ft, if_neg no_ft]
                show X7_readWord_L2_b N (nI p) (X7_readWord_L2 N (nI p) m) (sI e 6 (nI 6)) = _
                unfold X7_readWord_L2_b
                rw [sI_at, if_pos (by decide)]
                rfl
  rw [← hm] at goal
  exact goal
/-- a blank and a figure, or two of them -/
def nmb (L : Nat) (c : Nat → Nat) (m p : Nat) : Nat ⊕ (Nat × Nat) :=
  if (decide (p < L) && decide (c p = 32)) = true then
    (if (decide (p + 1 < L) && dgt (c (p + 1))) = true then
      (if (decide (m = 2) && (decide (p + 2 < L) && dgt (c (p + 2)))) = true then .inr ((c (p + 1) - 48) * 10 + c (p + 2) - 48, p + 3) else .inr (c (p + 1) - 48, p + 2))
    else .inl (p + 1))
  else .inl p
theorem nmb_a {L m p : Nat} {c : Nat → Nat} (g : ¬ (decide (p < L) && decide (c p = 32)) = true) : nmb L c m p = .inl p := by
  unfold nmb
  rw [if_neg g]
theorem nmb_b {L m p : Nat} {c : Nat → Nat} (g : (decide (p < L) && decide (c p = 32)) = true) (d : ¬ (decide (p + 1 < L) && dgt (c (p + 1))) = true) : nmb L c m p = .inl (p + 1) := by
  unfold nmb
  rw [if_pos g, if_neg d]
theorem nmb_c {L m p : Nat} {c : Nat → Nat} (g : (decide (p < L) && decide (c p = 32)) = true) (d : (decide (p + 1 < L) && dgt (c (p + 1))) = true) (d2 : ¬ (decide (m = 2) && (decide (p + 2 < L) && dgt (c (p + 2)))) = true) : nmb L c m p = .inr (c (p + 1) - 48, p + 2) := by
  unfold nmb
  rw [if_pos g, if_pos d, if_neg d2]
theorem nmb_d {L m p : Nat} {c : Nat → Nat} (g : (decide (p < L) && decide (c p = 32)) = true) (d : (decide (p + 1 < L) && dgt (c (p + 1))) = true) (d2 : (decide (m = 2) && (decide (p + 2 < L) && dgt (c (p + 2)))) = true) : nmb L c m p = .inr ((c (p + 1) - 48) * 10 + c (p + 2) - 48, p + 3) := by
  unfold nmb
  rw [if_pos g, if_pos d, if_pos d2]
theorem isFigure_X {L p : Nat} {c : Nat → Nat} {s : ST} (hT : TX L c s) (hp : s.1 16 = nI p) (h1 : p ≤ 130) : X5_isFigure s = some (bI (decide (p < L) && dgt (c p))) := by
  obtain ⟨t1, t2, t3⟩ := hT
  unfold X5_isFigure
  rw [t2, hp]
  by_cases q : p < L
  · obtain ⟨c1, c2, c3⟩ := t3 p q
    rw [if_neg (by rw [nI_lep (by omega) (by omega)]; omega), inb_t (show p < 120 by omega) (by omega), gd_t, nI_clamp (by omega), c1, decide_eq_true q, Bool.true_and]
    by_cases g1 : c p < 48
    · rw [if_pos (by rw [l48, nI_ltp (by omega) (by omega)]; exact g1), show dgt (c p) = false from decide_eq_false (by omega)]; rfl
    · rw [if_neg (by rw [l48, nI_ltp (by omega) (by omega)]; exact g1), gd_t]
      by_cases g2 : 57 < c p
      · rw [if_pos (by rw [l57, nI_ltp (by omega) (by omega)]; exact g2), show dgt (c p) = false from decide_eq_false (by omega)]; rfl
      · rw [if_neg (by rw [l57, nI_ltp (by omega) (by omega)]; exact g2), show dgt (c p) = true from decide_eq_true (by omega)]; rfl
  · rw [if_pos (by rw [nI_lep (by omega) (by omega)]; omega), decide_eq_false q]; rfl
theorem isFigure_M {L p : Nat} {c : Nat → Nat} {s : ST} (hT : TM L c s) (hp : s.1 4 = nI p) (h1 : p ≤ 130) : X7_isFigure s = some (bI (decide (p < L) && dgt (c p))) := by
  obtain ⟨t1, t2, t3⟩ := hT
  unfold X7_isFigure
  rw [t2, hp]
  by_cases q : p < L
  · obtain ⟨c1, c2, c3⟩ := t3 p q
    have e7 : X7_in (nI (c p)) (48 : Int32) (57 : Int32) = some (bI (dgt (c p))) := by
      refine Eq.trans (X7_in_v (a := 48) (b := 57) (by omega) (by omega)) ?_
      unfold dgt
      rw [nI_toInt (by omega)]
      congr 2
      exact decide_eq_decide.mpr ⟨fun h => by omega, fun h => by omega⟩
    rw [if_neg (by rw [nI_lep (by omega) (by omega)]; omega), inb_t (show p < 120 by omega) (by omega), gd_t, nI_clamp (by omega), c1, e7, bd_s, decide_eq_true q, Bool.true_and]
    cases dgt (c p) with
    | false => rw [ib_f rfl]; rfl
    | true => rw [ib_t rfl]; rfl
  · rw [if_pos (by rw [nI_lep (by omega) (by omega)]; omega), decide_eq_false q]; rfl
theorem isHere_M {L p x : Nat} {c : Nat → Nat} {s : ST} (hT : TM L c s) (hp : s.1 4 = nI p) (h1 : p ≤ 130) (hx : x < 200) : X7_isHere s (nI x) = some (bI (decide (p < L) && decide (c p = x))) := by
  obtain ⟨t1, t2, t3⟩ := hT
  unfold X7_isHere
  rw [t2, hp]
  by_cases q : p < L
  · obtain ⟨c1, c2, c3⟩ := t3 p q
    rw [if_neg (by rw [nI_lep (by omega) (by omega)]; omega), inb_t (show p < 120 by omega) (by omega), gd_t, nI_clamp (by omega), c1, decide_eq_true q, Bool.true_and]
    by_cases g : c p = x
    · rw [if_pos (by rw [g]), decide_eq_true g]; rfl
    · rw [if_neg (by rw [nI_inj (by omega) (by omega)]; exact g), decide_eq_false g]; rfl
  · rw [if_pos (by rw [nI_lep (by omega) (by omega)]; omega), decide_eq_false q]; rfl
theorem dgt_t {x : Nat} (h : dgt x = true) : 48 ≤ x ∧ x ≤ 57 := of_decide_eq_true h
theorem fig1 {x : Nat} (h : 48 ≤ x) : ((0 : Int32) * (10 : Int32) + nI x) - (48 : Int32) = nI (x - 48) := by
  rw [show (0 : Int32) * (10 : Int32) = nI 0 by decide, nI_add, Nat.zero_add, l48, pk_sub h]
theorem fig2 {v x : Nat} (h : 48 ≤ x) : (nI v * (10 : Int32) + nI x) - (48 : Int32) = nI (v * 10 + x - 48) := by
  rw [show (10 : Int32) = nI 10 from rfl, pk_mul, nI_add, l48, pk_sub (by omega)]
theorem takeNumber_X {N L m p : Nat} {c : Nat → Nat} {s : ST} (hN : 300 < N) (hT : TX L c s) (hp : s.1 16 = nI p) (h1 : p ≤ L) (hf : s.1 17 = -1) (hm : m = 1 ∨ m = 2) : (∃ f, nmb L c m p = .inl f ∧ f ≤ L ∧ ∃ s', X5_takeNumber N s (nI m) = some ((0 : Int32), s') ∧ s'.1 17 = nI f ∧ (∀ i, i ≠ 16 → i ≠ 17 → s'.1 i = s.1 i) ∧ s'.2 = s.2) ∨ (∃ v q, nmb L c m p = .inr (v, q) ∧ v < 100 ∧ (m = 1 → v < 10) ∧ p + 2 ≤ q ∧ q ≤ L ∧ X5_takeNumber N s (nI m) = some (nI v, sI s 16 (nI q))) := by
  have ⟨t1, t2, t3⟩ := hT
  unfold X5_takeNumber
  rw [if_pos hf, t2, hp]
  by_cases q : p < L
  · obtain ⟨c1, c2, c3⟩ := t3 p q
    rw [if_neg (by rw [nI_lep (by omega) (by omega)]; omega), inb_t (show p < 120 by omega) (by omega), gd_t, nI_clamp (by omega), c1]
    by_cases g : c p = 32
    · have hg : (decide (p < L) && decide (c p = 32)) = true := by rw [decide_eq_true q, decide_eq_true g]; rfl
      have T1 : TX L c (sI s 16 (nI (p + 1))) := hT.fr ((FrX.rf s).put _ (by omega) (by omega))
      rw [if_pos (show nI (c p) = (32 : Int32) by rw [g]; rfl), nI_1, nm_u, isFigure_X (p := p + 1) T1 rfl (by omega), bd_s]
      by_cases d : (decide (p + 1 < L) && dgt (c (p + 1))) = true
      · have d' := d
        rw [Bool.and_eq_true, decide_eq_true_iff] at d'
        obtain ⟨e1, e2, e3⟩ := t3 (p + 1) d'.1
        have e4 := dgt_t d'.2
        refine Or.inr ?_
        rw [ib_t d]
        obtain ⟨N, rfl⟩ : ∃ k, N = k + 1 + 1 + 1 := ⟨N - 3, by omega⟩
        have a1 : X5_takeNumber_L1 (nI m) (N + 1 + 1 + 1) (0 : Int32) (0 : Int32) (sI s 16 (nI (p + 1))) = X5_takeNumber_L1 (nI m) (N + 1 + 1) (nI 1) (nI (c (p + 1) - 48)) (sI s 16 (nI (p + 2))) := by
          show X5_takeNumber_L1_b (nI m) (X5_takeNumber_L1 (nI m) (N + 1 + 1)) (0 : Int32) (0 : Int32) (sI s 16 (nI (p + 1))) = _
          unfold X5_takeNumber_L1_b
          rw [if_neg (show ¬ nI m ≤ (0 : Int32) by rw [l0, nI_lep (by omega) (by omega)]; omega), isFigure_X (p := p + 1) T1 rfl (by omega), bd_s, ib_t d, sI_at, inb_t (show p + 1 < 120 by omega) (by omega), gd_t, nI_clamp (by omega), show (sI s 16 (nI (p + 1))).2.1 15 (p + 1) = nI (c (p + 1)) from e1, fig1 e4.1, nm_u, nI_1, nm_u, nm_u, sI_sI]
          rfl
        have T2 : TX L c (sI s 16 (nI (p + 2))) := hT.fr ((FrX.rf s).put _ (by omega) (by omega))
        by_cases d2 : (decide (m = 2) && (decide (p + 2 < L) && dgt (c (p + 2)))) = true
        · have d3 := d2
          rw [Bool.and_eq_true, Bool.and_eq_true, decide_eq_true_iff, decide_eq_true_iff] at d3
          obtain ⟨m2, d4, d5⟩ := d3
          obtain ⟨f1, f2, f3⟩ := t3 (p + 2) d4
          have f4 := dgt_t d5
          have a2 : X5_takeNumber_L1 (nI m) (N + 1 + 1) (nI 1) (nI (c (p + 1) - 48)) (sI s 16 (nI (p + 2))) = X5_takeNumber_L1 (nI m) (N + 1) (nI 2) (nI ((c (p + 1) - 48) * 10 + c (p + 2) - 48)) (sI s 16 (nI (p + 3))) := by
            show X5_takeNumber_L1_b (nI m) (X5_takeNumber_L1 (nI m) (N + 1)) (nI 1) (nI (c (p + 1) - 48)) (sI s 16 (nI (p + 2))) = _
            unfold X5_takeNumber_L1_b
            rw [if_neg (show ¬ nI m ≤ nI 1 by rw [nI_lep (by omega) (by omega)]; omega), isFigure_X (p := p + 2) T2 rfl (by omega), bd_s, ib_t (show (decide (p + 2 < L) && dgt (c (p + 2))) = true by rw [decide_eq_true d4, d5]; rfl), sI_at, inb_t (show p + 2 < 120 by omega) (by omega), gd_t, nI_clamp (by omega), show (sI s 16 (nI (p + 2))).2.1 15 (p + 2) = nI (c (p + 2)) from f1, fig2 f4.1, nm_u, nI_1, nm_u, nI_1, nm_u, sI_sI]
          have a3 : X5_takeNumber_L1 (nI m) (N + 1) (nI 2) (nI ((c (p + 1) - 48) * 10 + c (p + 2) - 48)) (sI s 16 (nI (p + 3))) = some (nI ((c (p + 1) - 48) * 10 + c (p + 2) - 48), sI s 16 (nI (p + 3))) := by
            show X5_takeNumber_L1_b (nI m) (X5_takeNumber_L1 (nI m) N) (nI 2) (nI ((c (p + 1) - 48) * 10 + c (p + 2) - 48)) (sI s 16 (nI (p + 3))) = _
            unfold X5_takeNumber_L1_b
            rw [m2, if_pos (show nI 2 ≤ nI 2 by decide)]
          rw [a1, a2, a3, bd_s]
          exact ⟨_, _, nmb_d hg d d2, by omega, fun z => by omega, by omega, by omega, rfl⟩
        · have a2 : X5_takeNumber_L1 (nI m) (N + 1 + 1) (nI 1) (nI (c (p + 1) - 48)) (sI s 16 (nI (p + 2))) = some (nI (c (p + 1) - 48), sI s 16 (nI (p + 2))) := by
            show X5_takeNumber_L1_b (nI m) (X5_takeNumber_L1 (nI m) (N + 1)) (nI 1) (nI (c (p + 1) - 48)) (sI s 16 (nI (p + 2))) = _
            unfold X5_takeNumber_L1_b
            rcases hm with rfl | rfl
            · rw [if_pos (show nI 1 ≤ nI 1 by decide)]
            · rw [show decide (2 = 2) = true from rfl, Bool.true_and] at d2
              rw [if_neg (show ¬ nI 2 ≤ nI 1 by decide), isFigure_X (p := p + 2) T2 rfl (by omega), bd_s, ib_f (by simpa using d2)]
          rw [a1, a2, bd_s]
          exact ⟨_, _, nmb_c hg d d2, by omega, fun _ => by omega, by omega, by omega, rfl⟩
      · refine Or.inl ⟨p + 1, nmb_b hg d, by omega, ?_⟩
        rw [ib_f (by simpa using d), nm_u, sI_at]
        exact ⟨_, rfl, rfl, fun i h1 h2 => by rw [sI_ne h2, sI_ne h1], rfl⟩
    · have hg : ¬ (decide (p < L) && decide (c p = 32)) = true := by rw [decide_eq_false g, Bool.and_false]; decide
      refine Or.inl ⟨p, nmb_a hg, h1, ?_⟩
      rw [if_neg (show ¬ nI (c p) = (32 : Int32) by rw [l32, nI_inj (by omega) (by omega)]; exact g), nm_u]
      exact ⟨_, rfl, rfl, fun i h1 h2 => by rw [sI_ne h2], rfl⟩
  · have hg : ¬ (decide (p < L) && decide (c p = 32)) = true := by rw [decide_eq_false q, Bool.false_and]; decide
    refine Or.inl ⟨p, nmb_a hg, h1, ?_⟩
    rw [if_pos (by rw [nI_lep (by omega) (by omega)]; omega), nm_u]
    exact ⟨_, rfl, rfl, fun i h1 h2 => by rw [sI_ne h2], rfl⟩
theorem readFigure_M {L p : Nat} {c : Nat → Nat} {s : ST} (hT : TM L c s) (hp : s.1 4 = nI p) (h1 : p ≤ L) : (∃ f, nmb L c 1 p = .inl f ∧ ∃ s', X7_readFigure s = some ((0 : Int32), s') ∧ s'.1 5 = nI f ∧ FrM s s') ∨ (∃ v q, nmb L c 1 p = .inr (v, q) ∧ p + 2 = q ∧ q ≤ L ∧ v = c (p + 1) - 48 ∧ ∃ s', X7_readFigure s = some ((1 : Int32), s') ∧ s'.1 4 = nI q ∧ s'.1 7 = nI v ∧ (∀ i, i ≠ 4 → i ≠ 7 → s'.1 i = s.1 i) ∧ s'.2 = s.2) := by
  have ⟨t1, t2, t3⟩ := hT
  unfold X7_readFigure
  rw [l32, isHere_M (x := 32) hT hp (by omega) (by omega), bd_s]
  by_cases g : (decide (p < L) && decide (c p = 32)) = true
  · have T1 : TM L c (sI s 4 (nI (p + 1))) := hT.fr ((FrM.rf s).put _ (by omega) (by omega))
    have g' := g
    rw [Bool.and_eq_true, decide_eq_true_iff] at g'
    rw [ib_t g, hp, nI_1, nm_u, isFigure_M (p := p + 1) T1 rfl (by omega), bd_s]
    by_cases d : (decide (p + 1 < L) && dgt (c (p + 1))) = true
    · have d' := d
      rw [Bool.and_eq_true, decide_eq_true_iff] at d'
      obtain ⟨e1, e2, e3⟩ := t3 (p + 1) d'.1
      have e4 := dgt_t d'.2
      refine Or.inr ⟨_, _, nmb_c g d (by rw [show decide (1 = 2) = false from rfl, Bool.false_and]; decide), rfl, by omega, rfl, ?_⟩
      rw [ib_t d, sI_at, inb_t (show p + 1 < 120 by omega) (by omega), gd_t, nI_clamp (by omega), show (sI s 4 (nI (p + 1))).2.1 6 (p + 1) = nI (c (p + 1)) from e1, l48, pk_sub e4.1, nm_u, nm_u]
      refine ⟨_, rfl, ?_, ?_, fun i h4 h7 => by rw [sI_ne h4, sI_ne h7, sI_ne h4], rfl⟩
      · rw [sI_at, sI_ne (by omega), sI_at, nI_1]
      · rw [sI_ne (by omega), sI_at]
    · refine Or.inl ⟨p + 1, nmb_b g d, ?_⟩
      rw [ib_f (by simpa using d), nm_u, sI_at]
      exact ⟨_, rfl, rfl, ((FrM.rf s).put _ (by omega) (by omega)).put _ (by omega) (by omega)⟩
  · refine Or.inl ⟨p, nmb_a g, ?_⟩
    rw [ib_f (by simpa using g), nm_u, hp]
    exact ⟨_, rfl, rfl, (FrM.rf s).put _ (by omega) (by omega)⟩
