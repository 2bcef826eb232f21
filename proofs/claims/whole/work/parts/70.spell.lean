/-! PURE 25: descriptions written -/
/-- a text l lies in array a, its length in scalar p -/
def Tx (s : ST) (p a : Nat) (l : List Int32) : Prop := s.1 p = nI l.length ∧ ∀ i, i < l.length → s.2.1 a i = l.getD i 0
/-- only a text has changed -/
def Wr (s s' : ST) (p a : Nat) : Prop := (∀ c, c ≠ p → s'.1 c = s.1 c) ∧ (∀ c, c ≠ a → s'.2.1 c = s.2.1 c) ∧ s'.2.2 = s.2.2
theorem Wr.rf (s : ST) (p a : Nat) : Wr s s p a := ⟨fun _ _ => rfl, fun _ _ => rfl, rfl⟩
theorem Wr.tr {s s' s'' : ST} {p a : Nat} (h : Wr s s' p a) (g : Wr s' s'' p a) : Wr s s'' p a := ⟨fun c hc => (g.1 c hc).trans (h.1 c hc), fun c hc => (g.2.1 c hc).trans (h.2.1 c hc), g.2.2.trans h.2.2⟩
theorem XT.wr {s s' : ST} {t : TB} {q b p a : Nat} (h : XT s q b t) (w : Wr s s' p a) (h1 : q + 2 < p) (h2 : b + 2 < a) : XT s' q b t := h.cg (w.1 _ (by omega)) (w.1 _ (by omega)) (w.1 _ (by omega)) (w.2.1 _ (by omega)) (w.2.1 _ (by omega)) (w.2.1 _ (by omega))
/-- an action writes m behind what there is, if there is room for it -/
def Says (op : ST → Option ST) (p a M K : Nat) (G : ST → Prop) (m : List Int32) : Prop := ∀ s l, G s → Tx s p a l → K ≤ l.length → l.length + m.length ≤ M → ∃ s', op s = some s' ∧ Tx s' p a (l ++ m) ∧ Wr s s' p a
theorem getD_app (l m : List Int32) (i : Nat) : (l ++ m).getD i 0 = if i < l.length then l.getD i 0 else m.getD (i - l.length) 0 := by
  rw [List.getD_eq_getElem?_getD, List.getElem?_append]
  split <;> rw [List.getD_eq_getElem?_getD]
theorem Tx.push {s : ST} {p a : Nat} {l : List Int32} (h : Tx s p a l) (c : Int32) (hl : l.length < 2 ^ 31) (hp : p ≠ a ∨ True) : Tx (sI (sA s a (upd (s.2.1 a) l.length c)) p (nI (l.length + 1))) p a (l ++ [c]) := by
  refine ⟨?_, fun i hi => ?_⟩
  · rw [st_II, if_pos rfl, List.length_append]; rfl
  · rw [st_IA, st_AA, if_pos rfl, getD_app, upd_q]
    rw [List.length_append] at hi
    have hi : i < l.length + 1 := hi
    by_cases e : i = l.length
    · rw [if_pos e, if_neg (by omega), e, Nat.sub_self]; rfl
    · rw [if_neg e, if_pos (by omega)]
      exact h.2 i (by omega)
theorem Wr.push (s : ST) (p a : Nat) (f : Nat → Int32) (v : Int32) : Wr s (sI (sA s a f) p v) p a := ⟨fun c hc => by rw [st_II, if_neg hc]; rfl, fun c hc => by rw [st_IA, st_AA, if_neg hc], rfl⟩
theorem sign_X {c : Int32} {K : Nat} (hc : cz c = true) : Says (fun s => X3_writeSign s c) 18 16 800 K (fun _ => True) [c] := by
  intro s l _ h _ hl
  have hl : l.length + 1 ≤ 800 := hl
  show ∃ s', X3_writeSign s c = some s' ∧ _
  unfold X3_writeSign
  rw [h.1, if_pos (by rw [show (800 : Int32) = nI 800 from rfl, nI_ltp (by omega) (by omega)]; omega), inb_t (show l.length < 800 by omega) (by omega), gd_t, hc, gd_t, nI_clamp (by omega)]
  simp only [nm_u, st_AI]
  rw [h.1, nI_1]
  exact ⟨_, rfl, h.push c (by omega) (Or.inr trivial), Wr.push _ _ _ _ _⟩
theorem sign_M {c : Int32} {K : Nat} : Says (fun s => X7_writes s c) 11 14 900 K (fun _ => True) [c] := by
  intro s l _ h _ hl
  have hl : l.length + 1 ≤ 900 := hl
  show ∃ s', X7_writes s c = some s' ∧ _
  unfold X7_writes
  rw [h.1, inb_t (show l.length < 900 by omega) (by omega), gd_t, nI_clamp (by omega)]
  simp only [nm_u, st_AI]
  rw [h.1, nI_1]
  exact ⟨_, rfl, h.push c (by omega) (Or.inr trivial), Wr.push _ _ _ _ _⟩
theorem Says.nil {p a M K : Nat} {G : ST → Prop} : Says (fun s => some s) p a M K G [] := fun s l _ h _ _ => ⟨s, rfl, by rw [List.append_nil]; exact h, Wr.rf s p a⟩
/-- one after the other -/
theorem Says.seq {f g : ST → Option ST} {p a M K : Nat} {G : ST → Prop} {m n : List Int32} (hG : ∀ s s', G s → Wr s s' p a → G s') (h1 : Says f p a M K G m) (h2 : Says g p a M K G n) : Says (fun s => bd (f s) g) p a M K G (m ++ n) := by
  intro s l gs h hK hl
  rw [List.length_append] at hl
  obtain ⟨s1, e1, t1, w1⟩ := h1 s l gs h hK (by omega)
  obtain ⟨s2, e2, t2, w2⟩ := h2 s1 (l ++ m) (hG s s1 gs w1) t1 (by rw [List.length_append]; omega) (by rw [List.length_append]; omega)
  refine ⟨s2, ?_, by rw [← List.append_assoc]; exact t2, w1.tr w2⟩
  show bd (f s) g = _
  rw [e1, bd_s, e2]
theorem Says.cg {f g : ST → Option ST} {p a M K : Nat} {G : ST → Prop} {m : List Int32} (h : Says f p a M K G m) (e : ∀ s, G s → g s = f s) : Says g p a M K G m := by
  intro s l gs ht hK hl
  obtain ⟨s', e1, r⟩ := h s l gs ht hK hl
  exact ⟨s', by rw [e s gs]; exact e1, r⟩
/-- a loop that says f i at each turn -/
theorem Says.loop {F : Nat → Nat → ST → Option ST} {p a M K N : Nat} {G : ST → Prop} {f : Nat → List Int32} (hG : ∀ s s', G s → Wr s s' p a → G s') (hs : ∀ k i, i < N → ∃ op : ST → Option ST, Says op p a M K G (f i) ∧ ∀ s, G s → F (k + 1) i s = bd (op s) (F k (i + 1))) (hx : ∀ k s, G s → F (k + 1) N s = some s) {k : Nat} (hk : N < k) : Says (F k 0) p a M K G (cat f N) := by
  intro s l gs h hK hl
  have mono : ∀ i, i ≤ N → (cat f i).length ≤ (cat f N).length := by
    intro i hi
    obtain ⟨d, rfl⟩ : ∃ d, N = i + d := ⟨N - i, by omega⟩
    clear hs hx hk hl hi
    induction d with
    | zero => exact Nat.le_refl _
    | succ d ih =>
      refine Nat.le_trans ih ?_
      show _ ≤ (cat f (i + d) ++ f (i + d)).length
      rw [List.length_append]; omega
  obtain ⟨s', e, r⟩ := loopInv0 (F := F) (Q := fun s' => Tx s' p a (l ++ cat f N) ∧ Wr s s' p a) (fun i s' => Tx s' p a (l ++ cat f i) ∧ Wr s s' p a) N (fun k i s' hi ⟨h1, h2⟩ => by
    obtain ⟨op, o1, o2⟩ := hs k i hi
    have m := mono (i + 1) (by omega)
    have e : cat f (i + 1) = cat f i ++ f i := rfl
    rw [e, List.length_append] at m
    obtain ⟨s'', e1, t1, w1⟩ := o1 s' _ (hG s s' gs h2) h1 (by rw [List.length_append]; omega) (by rw [List.length_append]; omega)
    refine ⟨s'', ⟨by rw [e, ← List.append_assoc]; exact t1, h2.tr w1⟩, ?_⟩
    rw [o2 s' (hG s s' gs h2), e1, bd_s]) (fun k s' ⟨h1, h2⟩ => ⟨s', hx k s' (hG s s' gs h2), h1, h2⟩) (k := k) hk (a := s) ⟨by rw [show cat f 0 = [] from rfl, List.append_nil]; exact h, Wr.rf s p a⟩
  exact ⟨s', e, r⟩
theorem GT_t {p a : Nat} : ∀ s s' : ST, (fun _ : ST => True) s → Wr s s' p a → (fun _ : ST => True) s' := fun _ _ _ _ => trivial
theorem tx_facts : ∀ k, k < 10 → tx_len.getD k 0 = (wd k).length ∧ (wd k).length ≤ 6 ∧ (∀ i, i < (wd k).length → cz ((wd k).getD i 0) = true) := by decide
theorem txlen_v {k : Nat} (hk : k < 10) : txlen k = some (nI (wd k).length) := by
  unfold txlen
  rw [decide_eq_true hk, gd_t, (tx_facts k hk).1]
theorem txat_v {k i : Nat} (hk : k < 10) (hi : i < (wd k).length) : txat k (nI i) = some ((wd k).getD i 0) := by
  have := (tx_facts k hk).2.1
  unfold txat
  rw [decide_eq_true hk, (tx_facts k hk).1, inb_t hi (by omega), nI_clamp (by omega)]
  rfl
theorem cat_one {l : List Int32} : ∀ {n : Nat}, n ≤ l.length → cat (fun i => [l.getD i 0]) n = l.take n
  | 0, _ => rfl
  | n + 1, h => by
    show cat (fun i => [l.getD i 0]) n ++ [l.getD n 0] = _
    rw [cat_one (by omega), List.take_add_one, List.getD_eq_getElem?_getD, List.getElem?_eq_getElem (by omega)]
    rfl
theorem word_X {N k K : Nat} (hN : 10 < N) (hk : k < 10) : Says (fun s => X3_write N s k) 18 16 800 K (fun _ => True) (wd k) := by
  have f := tx_facts k hk
  have h := Says.loop (F := fun j i s => X3_write_L1 k j (nI i) s) (p := 18) (a := 16) (M := 800) (K := K) (N := (wd k).length) (G := fun _ => True) (f := fun i => [(wd k).getD i 0]) GT_t (fun j i hi => ⟨fun s => X3_writeSign s ((wd k).getD i 0), sign_X (f.2.2 i hi), fun s _ => by
    show X3_write_L1_b k (X3_write_L1 k j) (nI i) s = _
    unfold X3_write_L1_b
    rw [txlen_v hk, bd_s, if_neg (by rw [nI_lep (by omega) (by omega)]; omega), txat_v hk hi, bd_s]
    simp only [nm_u, nI_1]⟩) (fun j s _ => by
    show X3_write_L1_b k (X3_write_L1 k j) (nI (wd k).length) s = _
    unfold X3_write_L1_b
    rw [txlen_v hk, bd_s, if_pos (by rw [nI_lep (by omega) (by omega)]; exact Nat.le_refl _)]) (k := N) (by omega)
  rw [cat_one (Nat.le_refl _), List.take_length] at h
  refine h.cg fun s _ => ?_
  unfold X3_write
  rw [l0]
  cases X3_write_L1 k N (nI 0) s <;> rfl
theorem num_facts : ∀ x, x < 100 → cz (nI (48 + x / 10)) = true ∧ cz (nI (48 + x % 10)) = true ∧ (((48 : Int32) + (nI x / (10 : Int32))).toUInt32 % 65536).toInt32 = nI (48 + x / 10) ∧ (((48 : Int32) + (nI x - nI x / (10 : Int32) * (10 : Int32))).toUInt32 % 65536).toInt32 = nI (48 + x % 10) ∧ (48 : Int32) + (nI x / (10 : Int32)) = nI (48 + x / 10) ∧ (48 : Int32) + (nI x - nI x / (10 : Int32) * (10 : Int32)) = nI (48 + x % 10) := by decide +kernel
theorem number_X {x K : Nat} (hx : x < 100) : Says (fun s => X3_writeNumber s (nI x)) 18 16 800 K (fun _ => True) (num x) := by
  obtain ⟨c1, c2, d1, d2, -, -⟩ := num_facts x hx
  by_cases h : x < 10
  · have e : num x = [(32 : Int32)] ++ [nI (48 + x)] := by unfold num; rw [if_pos h]; rfl
    rw [e]
    rw [show x % 10 = x by omega] at c2 d2
    refine (Says.seq GT_t (sign_X (by decide)) (sign_X c2)).cg fun s _ => ?_
    show X3_writeNumber s (nI x) = bd (X3_writeSign s 32) fun s => X3_writeSign s (nI (48 + x))
    unfold X3_writeNumber
    congr 1
    funext s2
    rw [if_pos (by rw [show (10 : Int32) = nI 10 from rfl, nI_ltp (by omega) (by omega)]; exact h), d2]
    cases X3_writeSign s2 (nI (48 + x)) <;> rfl
  · have e : num x = [(32 : Int32)] ++ ([nI (48 + x / 10)] ++ [nI (48 + x % 10)]) := by unfold num; rw [if_neg h]; rfl
    rw [e]
    refine (Says.seq GT_t (sign_X (by decide)) (Says.seq GT_t (sign_X c1) (sign_X c2))).cg fun s _ => ?_
    show X3_writeNumber s (nI x) = bd (X3_writeSign s 32) fun s => bd (X3_writeSign s (nI (48 + x / 10))) fun s => X3_writeSign s (nI (48 + x % 10))
    unfold X3_writeNumber
    congr 1
    funext s2
    rw [if_neg (by rw [show (10 : Int32) = nI 10 from rfl, nI_ltp (by omega) (by omega)]; exact h), d1, d2]
    congr 1
    funext s3
    cases X3_writeSign s3 (nI (48 + x % 10)) <;> rfl
theorem number_M {x K : Nat} (hx : x < 100) : Says (fun s => X7_writesNumber s (nI x)) 11 14 900 K (fun _ => True) (num x) := by
  obtain ⟨-, -, -, -, d1, d2⟩ := num_facts x hx
  by_cases h : x < 10
  · have e : num x = [(32 : Int32)] ++ [nI (48 + x)] := by unfold num; rw [if_pos h]; rfl
    rw [e]
    rw [show x % 10 = x by omega] at d2
    refine (Says.seq GT_t sign_M sign_M).cg fun s _ => ?_
    show X7_writesNumber s (nI x) = bd (X7_writes s 32) fun s => X7_writes s (nI (48 + x))
    unfold X7_writesNumber
    congr 1
    funext s2
    rw [if_pos (by rw [show (10 : Int32) = nI 10 from rfl, nI_ltp (by omega) (by omega)]; exact h), d2]
    cases X7_writes s2 (nI (48 + x)) <;> rfl
  · have e : num x = [(32 : Int32)] ++ ([nI (48 + x / 10)] ++ [nI (48 + x % 10)]) := by unfold num; rw [if_neg h]; rfl
    rw [e]
    refine (Says.seq GT_t sign_M (Says.seq GT_t sign_M sign_M)).cg fun s _ => ?_
    show X7_writesNumber s (nI x) = bd (X7_writes s 32) fun s => bd (X7_writes s (nI (48 + x / 10))) fun s => X7_writes s (nI (48 + x % 10))
    unfold X7_writesNumber
    congr 1
    funext s2
    rw [if_neg (by rw [show (10 : Int32) = nI 10 from rfl, nI_ltp (by omega) (by omega)]; exact h), d1, d2]
    congr 1
    funext s3
    cases X7_writes s3 (nI (48 + x % 10)) <;> rfl
/-- what holds whatever the state, holds where G does -/
theorem Says.any {f : ST → Option ST} {p a M K : Nat} {G : ST → Prop} {m : List Int32} (h : Says f p a M K (fun _ => True) m) : Says f p a M K G m := fun s l _ ht hK hl => h s l trivial ht hK hl
theorem opt_t {b : Bool} {l : List Int32} (h : b = true) : opt b l = l := if_pos h
theorem opt_f {b : Bool} {l : List Int32} (h : b = false) : opt b l = [] := if_neg (by rw [h]; decide)
theorem GX {t : TB} : ∀ s s' : ST, XT s 1 0 t → Wr s s' 18 16 → XT s' 1 0 t := fun s s' h w => h.wr w (by omega) (by omega)
theorem GM {t : TB} : ∀ s s' : ST, XT s 0 0 t → Wr s s' 11 14 → XT s' 0 0 t := fun s s' h w => h.wr w (by omega) (by omega)
/-- three in a row -/
theorem roads_X {N : Nat} {t : TB} (hN : 300 < N) (hO : OKT t) : Says (X3_writeRoads_a1 N) 18 16 800 0 (fun s => XT s 1 0 t) (cat (fun i => cat (fun j => opt ((tR t i).testBit j) (wd 6 ++ num i ++ num j)) (tN t)) (tN t)) := by
  have h8 := hO.1
  have p8 := hO.p8
  have h := Says.loop (F := fun k i s => X3_writeRoads_a1_L1 N k (nI i) s) (p := 18) (a := 16) (M := 800) (K := 0) (N := tN t) (G := fun s => XT s 1 0 t) (f := fun i => cat (fun j => opt ((tR t i).testBit j) (wd 6 ++ num i ++ num j)) (tN t)) GX (fun k i hi => ⟨fun s => X3_writeRoads_a1_L2 N (nI i) N (nI 0) s, ?_, fun s hs => ?_⟩) (fun k s hs => ?_) (k := N) (by omega)
  · refine h.cg fun s _ => ?_
    unfold X3_writeRoads_a1
    rw [l0]
    cases X3_writeRoads_a1_L1 N N (nI 0) s <;> rfl
  · have ri := (hO.2.2.2.1 i (by omega)).1
    refine Says.loop (F := fun k j s => X3_writeRoads_a1_L2 N (nI i) k (nI j) s) (p := 18) (a := 16) (M := 800) (K := 0) (N := tN t) (G := fun s => XT s 1 0 t) (f := fun j => opt ((tR t i).testBit j) (wd 6 ++ num i ++ num j)) GX (fun k j hj => ?_) (fun k s hs => ?_) (k := N) (by omega)
    · cases q : (tR t i).testBit j with
      | false =>
        refine ⟨fun s => some s, by rw [opt_f rfl]; exact Says.nil, fun s hs => ?_⟩
        show X3_writeRoads_a1_L2_b N (nI i) (X3_writeRoads_a1_L2 N (nI i) k) (nI j) s = _
        unfold X3_writeRoads_a1_L2_b
        rw [hs.1, if_neg (by rw [nI_lep (by omega) (by omega)]; omega), inb_t (show i < 8 by omega) (by omega), gd_t, nI_clamp (by omega), hs.2.2.2.1 i (by omega), X6_has_v (by omega) (by omega), bd_s, ib_f q]
        simp only [nm_u, nI_1, bd_s]
      | true =>
        refine ⟨fun s => bd (bd (X3_write N s 6) fun s => X3_writeNumber s (nI i)) fun s => X3_writeNumber s (nI j), by rw [opt_t rfl]; exact Says.any (Says.seq GT_t (Says.seq GT_t (word_X (by omega) (by omega)) (number_X (by omega))) (number_X (by omega))), fun s hs => ?_⟩
        show X3_writeRoads_a1_L2_b N (nI i) (X3_writeRoads_a1_L2 N (nI i) k) (nI j) s = _
        unfold X3_writeRoads_a1_L2_b
        rw [hs.1, if_neg (by rw [nI_lep (by omega) (by omega)]; omega), inb_t (show i < 8 by omega) (by omega), gd_t, nI_clamp (by omega), hs.2.2.2.1 i (by omega), X6_has_v (by omega) (by omega), bd_s, ib_t q]
        simp only [nm_u, nI_1]
        cases X3_write N s 6 with
        | none => rfl
        | some s1 =>
          rw [bd_s, bd_s]
          cases X3_writeNumber s1 (nI i) <;> rfl
    · show X3_writeRoads_a1_L2_b N (nI i) (X3_writeRoads_a1_L2 N (nI i) k) (nI (tN t)) s = _
      unfold X3_writeRoads_a1_L2_b
      rw [hs.1, if_pos (by rw [nI_lep (by omega) (by omega)]; exact Nat.le_refl _)]
  · show X3_writeRoads_a1_L1_b N (X3_writeRoads_a1_L1 N k) (nI i) s = _
    unfold X3_writeRoads_a1_L1_b
    rw [hs.1, if_neg (by rw [nI_lep (by omega) (by omega)]; omega), l0]
    simp only [nm_u, nI_1]
  · show X3_writeRoads_a1_L1_b N (X3_writeRoads_a1_L1 N k) (nI (tN t)) s = _
    unfold X3_writeRoads_a1_L1_b
    rw [hs.1, if_pos (by rw [nI_lep (by omega) (by omega)]; exact Nat.le_refl _)]
