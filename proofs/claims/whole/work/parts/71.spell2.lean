/-! PURE 26: the rest of a description (class) -/
theorem bd_some {α : Type} (o : Option α) : (bd o fun e => some e) = o := by cases o <;> rfl
theorem bd_bd {α β γ : Type} (o : Option α) (f : α → Option β) (g : β → Option γ) : bd (bd o f) g = bd o fun x => bd (f x) g := by cases o <;> rfl
theorem posts_X {N : Nat} {t : TB} (hN : 300 < N) (hO : OKT t) : Says (fun s => X3_writePostsOf N s 3 (nI (tT t))) 18 16 800 0 (fun s => XT s 1 0 t) (cat (fun i => opt ((tT t).testBit i) (wd 7 ++ wd 3 ++ num i)) 8) := by
  have p8 := hO.p8
  have hT := hO.2.1
  have h := Says.loop (F := fun k i s => X3_writePostsOf_L1 N 3 (nI (tT t)) k (nI i) s) (p := 18) (a := 16) (M := 800) (K := 0) (N := 8) (G := fun s => XT s 1 0 t) (f := fun i => opt ((tT t).testBit i) (wd 7 ++ wd 3 ++ num i)) GX (fun k i hi => ?_) (fun k s hs => ?_) (k := N) (by omega)
  · refine h.cg fun s _ => ?_
    unfold X3_writePostsOf
    rw [l0, bd_some]
  · cases q : (tT t).testBit i with
    | false =>
      refine ⟨fun s => some s, by rw [opt_f rfl]; exact Says.nil, fun s hs => ?_⟩
      show X3_writePostsOf_L1_b N 3 (nI (tT t)) (X3_writePostsOf_L1 N 3 (nI (tT t)) k) (nI i) s = _
      unfold X3_writePostsOf_L1_b
      rw [if_neg (by rw [l8, nI_lep (by omega) (by omega)]; omega), X6_has_v (by omega) (by omega), bd_s, ib_f q]
      simp only [nm_u, nI_1, bd_s]
    | true =>
      refine ⟨fun s => bd (bd (X3_write N s 7) fun s => X3_write N s 3) fun s => X3_writeNumber s (nI i), by rw [opt_t rfl]; exact Says.any (Says.seq GT_t (Says.seq GT_t (word_X (by omega) (by omega)) (word_X (by omega) (by omega))) (number_X (by omega))), fun s hs => ?_⟩
      show X3_writePostsOf_L1_b N 3 (nI (tT t)) (X3_writePostsOf_L1 N 3 (nI (tT t)) k) (nI i) s = _
      unfold X3_writePostsOf_L1_b
      rw [if_neg (by rw [l8, nI_lep (by omega) (by omega)]; omega), X6_has_v (by omega) (by omega), bd_s, ib_t q]
      simp only [nm_u, nI_1, bd_bd]
  · show X3_writePostsOf_L1_b N 3 (nI (tT t)) (X3_writePostsOf_L1 N 3 (nI (tT t)) k) (nI 8) s = _
    unfold X3_writePostsOf_L1_b
    rw [if_pos (by rw [l8, nI_lep (by omega) (by omega)]; exact Nat.le_refl _)]
theorem set_X {N x : Nat} {G : ST → Prop} (hN : 300 < N) (hx : x < 256) : Says (fun s => X3_writeSet N s (nI x)) 18 16 800 0 G (wd 8 ++ cat (fun i => opt (x.testBit i) (num i)) 8) := by
  have h := Says.loop (F := fun k i s => X3_writeSet_L1 (nI x) k (nI i) s) (p := 18) (a := 16) (M := 800) (K := 0) (N := 8) (G := fun _ => True) (f := fun i => opt (x.testBit i) (num i)) GT_t (fun k i hi => ?_) (fun k s hs => ?_) (k := N) (by omega)
  · refine Says.any ((Says.seq GT_t (word_X (k := 8) (N := N) (by omega) (by omega)) h).cg fun s _ => ?_)
    show X3_writeSet N s (nI x) = _
    unfold X3_writeSet
    rw [l0]
    congr 1
    funext s2
    rw [bd_some]
  · cases q : x.testBit i with
    | false =>
      refine ⟨fun s => some s, by rw [opt_f rfl]; exact Says.nil, fun s hs => ?_⟩
      show X3_writeSet_L1_b (nI x) (X3_writeSet_L1 (nI x) k) (nI i) s = _
      unfold X3_writeSet_L1_b
      rw [if_neg (by rw [l8, nI_lep (by omega) (by omega)]; omega), X6_has_v (by omega) (by omega), bd_s, ib_f q]
      simp only [nm_u, nI_1, bd_s]
    | true =>
      refine ⟨fun s => X3_writeNumber s (nI i), by rw [opt_t rfl]; exact number_X (by omega), fun s hs => ?_⟩
      show X3_writeSet_L1_b (nI x) (X3_writeSet_L1 (nI x) k) (nI i) s = _
      unfold X3_writeSet_L1_b
      rw [if_neg (by rw [l8, nI_lep (by omega) (by omega)]; omega), X6_has_v (by omega) (by omega), bd_s, ib_t q]
      simp only [nm_u, nI_1]
  · show X3_writeSet_L1_b (nI x) (X3_writeSet_L1 (nI x) k) (nI 8) s = _
    unfold X3_writeSet_L1_b
    rw [if_pos (by rw [l8, nI_lep (by omega) (by omega)]; exact Nat.le_refl _)]
theorem sets_X {N : Nat} {t : TB} (hN : 300 < N) (hO : OKT t) : Says (fun s => X3_spell_a1_L1 N N (nI 0) s) 18 16 800 0 (fun s => XT s 1 0 t) (cat (fun j => wd 8 ++ cat (fun i => opt ((tF t j).testBit i) (num i)) 8) (tK t)) := by
  have p8 := hO.p8
  have hK := hO.2.2.1
  refine Says.loop (F := fun k i s => X3_spell_a1_L1 N k (nI i) s) (p := 18) (a := 16) (M := 800) (K := 0) (N := tK t) (G := fun s => XT s 1 0 t) (f := fun j => wd 8 ++ cat (fun i => opt ((tF t j).testBit i) (num i)) 8) GX (fun k j hj => ⟨fun s => X3_writeSet N s (nI (tF t j)), set_X hN (by have := hO.2.2.2.2.2 j hj; omega), fun s hs => ?_⟩) (fun k s hs => ?_) (k := N) (by omega)
  · show X3_spell_a1_L1_b N (X3_spell_a1_L1 N k) (nI j) s = _
    unfold X3_spell_a1_L1_b
    rw [hs.2.2.1, if_neg (by rw [nI_lep (by omega) (by omega)]; omega), inb_t (show j < 8 by omega) (by omega), gd_t, nI_clamp (by omega), hs.2.2.2.2.2 j hj]
    simp only [nm_u, nI_1]
  · show X3_spell_a1_L1_b N (X3_spell_a1_L1 N k) (nI (tK t)) s = _
    unfold X3_spell_a1_L1_b
    rw [hs.2.2.1, if_pos (by rw [nI_lep (by omega) (by omega)]; exact Nat.le_refl _)]
theorem weights_X {N : Nat} {t : TB} (hN : 300 < N) (hO : OKT t) : Says (fun s => X3_writeWeights_a1 N s) 18 16 800 0 (fun s => XT s 1 0 t) (cat (fun i => opt (decide (tW t i ≠ 0)) (wd 9 ++ num i ++ num (tW t i))) (tN t)) := by
  have h8 := hO.1
  have h := Says.loop (F := fun k i s => X3_writeWeights_a1_L1 N k (nI i) s) (p := 18) (a := 16) (M := 800) (K := 0) (N := tN t) (G := fun s => XT s 1 0 t) (f := fun i => opt (decide (tW t i ≠ 0)) (wd 9 ++ num i ++ num (tW t i))) GX (fun k i hi => ?_) (fun k s hs => ?_) (k := N) (by omega)
  · refine h.cg fun s _ => ?_
    unfold X3_writeWeights_a1
    rw [l0, bd_some]
  · have wi := hO.2.2.2.2.1 i (by omega)
    by_cases q : tW t i = 0
    · refine ⟨fun s => some s, by rw [opt_f (decide_eq_false (by simpa using q))]; exact Says.nil, fun s hs => ?_⟩
      show X3_writeWeights_a1_L1_b N (X3_writeWeights_a1_L1 N k) (nI i) s = _
      unfold X3_writeWeights_a1_L1_b
      rw [hs.1, if_neg (by rw [nI_lep (by omega) (by omega)]; omega), inb_t (show i < 8 by omega) (by omega), gd_t, nI_clamp (by omega), hs.2.2.2.2.1 i (by omega), if_pos (by rw [nI_eq0 (by omega)]; exact q)]
      simp only [nm_u, nI_1, bd_s]
    · have last : Says (fun s => X3_writeNumber s (s.2.1 1 i)) 18 16 800 0 (fun s => XT s 1 0 t) (num (tW t i)) := (Says.any (number_X (x := tW t i) (by omega))).cg fun s hs => by rw [hs.2.2.2.2.1 i (by omega)]
      refine ⟨fun s => bd (bd (X3_write N s 9) fun s => X3_writeNumber s (nI i)) fun s => X3_writeNumber s (s.2.1 1 i), by rw [opt_t (decide_eq_true q)]; exact Says.seq GX (Says.any (Says.seq GT_t (word_X (by omega) (by omega)) (number_X (by omega)))) last, fun s hs => ?_⟩
      show X3_writeWeights_a1_L1_b N (X3_writeWeights_a1_L1 N k) (nI i) s = _
      unfold X3_writeWeights_a1_L1_b
      rw [hs.1, if_neg (by rw [nI_lep (by omega) (by omega)]; omega), inb_t (show i < 8 by omega) (by omega), gd_t, nI_clamp (by omega), hs.2.2.2.2.1 i (by omega), if_neg (by rw [nI_eq0 (by omega)]; exact q)]
      simp only [nm_u, nI_1, bd_bd, gd_t]
  · show X3_writeWeights_a1_L1_b N (X3_writeWeights_a1_L1 N k) (nI (tN t)) s = _
    unfold X3_writeWeights_a1_L1_b
    rw [hs.1, if_pos (by rw [nI_lep (by omega) (by omega)]; exact Nat.le_refl _)]
/-- how long a description is at most -/
theorem num_len {x : Nat} : (num x).length ≤ 3 := by
  unfold num
  split <;> simp
theorem num_len2 {x : Nat} (h : x < 10) : (num x).length = 2 := by
  unfold num
  rw [if_pos h]; rfl
theorem cat_len {f : Nat → List Int32} {g : Nat → Nat} : ∀ {n : Nat}, (∀ i, i < n → (f i).length ≤ g i) → (cat f n).length ≤ ctr g n
  | 0, _ => Nat.le_refl _
  | n + 1, h => by
    show (cat f n ++ f n).length ≤ ctr g n + g n
    rw [List.length_append]
    have := cat_len (n := n) fun i hi => h i (by omega)
    have := h n (by omega)
    omega
theorem ctr_mono {f g : Nat → Nat} : ∀ {n m : Nat}, n ≤ m → (∀ i, i < m → f i ≤ g i) → ctr f n ≤ ctr g m
  | n, 0, h, _ => by rw [show n = 0 by omega]; exact Nat.le_refl _
  | n, m + 1, h, q => by
    by_cases e : n = m + 1
    · subst e
      have := ctr_mono (n := m) (m := m) (Nat.le_refl m) fun i hi => q i (by omega)
      have := q m (by omega)
      rw [ctr_s, ctr_s]; omega
    · have := ctr_mono (n := n) (m := m) (by omega) fun i hi => q i (by omega)
      rw [ctr_s]; omega
theorem wd_len : (wd 0).length = 5 ∧ (wd 3).length = 2 ∧ (wd 6).length = 5 ∧ (wd 7).length = 1 ∧ (wd 8).length = 4 ∧ (wd 9).length = 6 := by decide
theorem spl_len {t : TB} (hO : OKT t) : (spl t).length ≤ 800 := by
  obtain ⟨w0, w3, w6, w7, w8, w9⟩ := wd_len
  have h8 := hO.1
  have hK := hO.2.2.1
  have n0 := num_len2 (x := tN t) (by omega)
  have r : (cat (fun i => cat (fun j => opt ((tR t i).testBit j) (wd 6 ++ num i ++ num j)) (tN t)) (tN t)).length ≤ ctr (fun i => ctr (fun j => if j = i then 0 else 9) 8) 8 := by
    refine Nat.le_trans (cat_len (g := fun i => ctr (fun j => if j = i then 0 else 9) (tN t)) fun i hi => cat_len (g := fun j => if j = i then 0 else 9) fun j hj => ?_) (ctr_mono h8.2 fun i hi => ctr_mono h8.2 fun j hj => Nat.le_refl _)
    by_cases e : j = i
    · subst e
      rw [opt_f (hO.2.2.2.1 j (by omega)).2]
      exact Nat.zero_le _
    · rw [if_neg e]
      unfold opt
      split
      · rw [List.length_append, List.length_append, w6, num_len2 (by omega), num_len2 (by omega)]; omega
      · exact Nat.zero_le _
  have p : (cat (fun i => opt ((tT t).testBit i) (wd 7 ++ wd 3 ++ num i)) 8).length ≤ ctr (fun _ => 5) 8 := cat_len fun i hi => by
    unfold opt
    split
    · rw [List.length_append, List.length_append, w7, w3, num_len2 (by omega)]; omega
    · exact Nat.zero_le _
  have s : (cat (fun j => wd 8 ++ cat (fun i => opt ((tF t j).testBit i) (num i)) 8) (tK t)).length ≤ ctr (fun _ => 4 + ctr (fun _ => 2) 8) 8 := by
    refine Nat.le_trans (cat_len (g := fun _ => 4 + ctr (fun _ => 2) 8) fun j hj => ?_) (ctr_mono hK fun i hi => Nat.le_refl _)
    rw [List.length_append, w8]
    have : (cat (fun i => opt ((tF t j).testBit i) (num i)) 8).length ≤ ctr (fun _ => 2) 8 := cat_len fun i hi => by
      unfold opt
      split
      · rw [num_len2 (by omega)]; omega
      · exact Nat.zero_le _
    omega
  have w : (cat (fun i => opt (decide (tW t i ≠ 0)) (wd 9 ++ num i ++ num (tW t i))) (tN t)).length ≤ ctr (fun _ => 11) 8 := by
    refine Nat.le_trans (cat_len (g := fun _ => 11) fun i hi => ?_) (ctr_mono h8.2 fun i hi => Nat.le_refl _)
    unfold opt
    split
    · have := num_len (x := tW t i)
      rw [List.length_append, List.length_append, w9, num_len2 (by omega)]; omega
    · exact Nat.zero_le _
  have a1 : ctr (fun i => ctr (fun j => if j = i then 0 else 9) 8) 8 = 504 := by decide
  have a2 : ctr (fun _ => 5) 8 = 40 := by decide
  have a3 : ctr (fun _ => 4 + ctr (fun _ => 2) 8) 8 = 160 := by decide
  have a4 : ctr (fun _ => 11) 8 = 88 := by decide
  unfold spl
  simp only [List.length_append]
  rw [w0, n0]
  omega
theorem X3_spell_v {N ch : Nat} {s : ST} {t : TB} (hN : 300 < N) (hX : XT s 1 0 t) (hO : OKT t) (hc : s.1 4 = nI ch) (h31 : ch < 2 ^ 31) (hS : SPc s t ch) : ∃ s', X3_spell_a1 N s = some s' ∧ SpellOK s' t ∧ (∀ c, c ≠ 18 → c ≠ 19 → s'.1 c = s.1 c) ∧ (∀ c, c ≠ 16 → s'.2.1 c = s.2.1 c) ∧ s'.2.2 = s.2.2 ∧ SPc s' t ch := by
  unfold X3_spell_a1
  by_cases h : s.1 19 = s.1 4
  · rw [if_pos h]
    have ok : SpellOK s t := by
      rcases hS with q | ⟨m, q1, q2, q3⟩
      · rw [q, hc] at h
        exfalso
        have := congrArg Int32.toInt h
        rw [nI_toInt h31, show (-1 : Int32).toInt = -1 from by decide] at this
        omega
      · rw [q1, hc, nI_inj (by omega) h31] at h
        exact q3 h
    exact ⟨s, rfl, ok, fun _ _ _ => rfl, fun _ _ => rfl, rfl, hS⟩
  · rw [if_neg h, nm_u]
    have h8 := hO.1
    have a0 : XT (sI s 18 0) 1 0 t := hX.cg rfl rfl rfl rfl rfl rfl
    have t0 : Tx (sI s 18 0) 18 16 [] := ⟨rfl, fun i hi => absurd hi (Nat.not_lt_zero i)⟩
    have nn : Says (fun s => X3_writeNumber s (s.1 1)) 18 16 800 0 (fun s => XT s 1 0 t) (num (tN t)) := (Says.any (number_X (x := tN t) (by omega))).cg fun s hs => by rw [hs.1]
    have pp : Says (fun s => X3_writePostsOf N s 3 (s.1 2)) 18 16 800 0 (fun s => XT s 1 0 t) (cat (fun i => opt ((tT t).testBit i) (wd 7 ++ wd 3 ++ num i)) 8) := (posts_X hN hO).cg fun s hs => by rw [hs.2.1]
    have all := Says.seq GX (Says.seq GX (Says.seq GX (Says.seq GX (Says.seq GX (Says.any (word_X (N := N) (k := 0) (K := 0) (by omega) (by omega))) nn) (roads_X hN hO)) pp) (sets_X hN hO)) (weights_X hN hO)
    obtain ⟨s', e, t1, w1⟩ := all (sI s 18 0) [] a0 t0 (Nat.zero_le _) (by
      have := spl_len hO
      unfold spl at this
      simpa using this)
    simp only [bd_bd] at e
    refine ⟨sI s' 19 (s'.1 4), ?_, ⟨?_, fun i hi => ?_⟩, fun c h1 h2 => ?_, fun c hc => ?_, w1.2.2, Or.inr ⟨ch, ?_, Nat.le_refl _, fun _ => ⟨?_, fun i hi => ?_⟩⟩⟩
    · have q := congrArg (fun o => bd o fun s21 => some (sI s21 19 (s21.1 4))) e
      simp only [bd_bd, bd_s] at q
      exact q
    · exact t1.1
    · exact t1.2 i hi
    · rw [st_II, if_neg h2, w1.1 c h1, st_II, if_neg h1]
    · exact w1.2.1 c hc
    · rw [st_II, if_pos rfl, w1.1 4 (by omega)]; exact hc
    · exact t1.1
    · exact t1.2 i hi
