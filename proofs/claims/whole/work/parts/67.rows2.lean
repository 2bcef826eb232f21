/-! PURE 22: put, get -/
theorem case_put {k : Nat} {s u : ST} (h : Inv k s u) (v1 v2 v3 : Int32) : ∃ r s' u', X6_put s v1 v2 v3 = some (r, s') ∧ X7_put u v1 v2 v3 = some (r, u') ∧ Inv (k + 1) s' u' := by
  obtain ⟨t, h1, h2, h3, h4, h5, h6, h7⟩ := id h
  unfold X6_put X7_put
  rw [(isRow_2 v1).1, (isRow_2 v1).2, bd_s, bd_s]
  refine bc (b := inR v1 3) (fun q => ⟨_, _, _, by rw [ib_f q], by rw [ib_f q], h.mono⟩) fun q1 => ?_
  obtain ⟨r, hr, rfl⟩ := inR_t q1 (by omega)
  obtain ⟨b, e, g1, g2, g3⟩ := isThere_v h7 hr
  rw [ib_t q1, ib_t q1, e, bd_s, inb_t (show r < 3 from hr) (by omega), gd_t, nI_clamp (by omega)]
  cases b with
  | false =>
    rw [ib_f rfl, if_neg (fun z => by cases g1.mpr z)]
    exact ⟨_, _, _, rfl, rfl, h.mono⟩
  | true =>
    obtain ⟨z, z1, z2, z3, z4⟩ := g3 rfl
    rw [ib_t rfl, if_pos (g1.mp rfl), z2, z3, gd_t, gd_t, X7_in_m1 (by omega), bd_s]
    by_cases c : inR v2 z = true
    · obtain ⟨a, ha, rfl⟩ := inR_t c (by omega)
      have fin : ∀ s' u' : ST, s'.1 = s.1 → (∀ p, p < 11 ∨ 13 < p → s'.2.1 p = s.2.1 p) → s'.2.2 = s.2.2 → (∀ p, p ≠ 4 → u'.2.1 p = u.2.1 p) → u'.1 = u.1 → s'.2.1 (11 + r) = upd (s.2.1 (11 + r)) a v3 → (∀ q, q < 3 → q ≠ r → s'.2.1 (11 + q) = s.2.1 (11 + q)) → u'.2.1 4 = upd (u.2.1 4) (40 * r + a) v3 → Inv (k + 1) s' u' := by
        intro s' u' e1 e2 e3 f1 f2 e4 e5 f3
        refine ⟨t, h1, h2.cg (by rw [e1]) (by rw [e1]) (by rw [e1]) (e2 _ (by omega)) (e2 _ (by omega)) (e2 _ (by omega)), h3.cg (by rw [f2]) (by rw [f2]) (by rw [f2]) (f1 _ (by omega)) (f1 _ (by omega)) (f1 _ (by omega)), h4.cg (by rw [e1]) (by rw [e1]) (by rw [e1]) (by rw [e1]) (by rw [e1]) (by rw [e1]) (e2 _ (by omega)) (e2 _ (by omega)) (e2 _ (by omega)) (by rw [e3]), h5.cg (by rw [e1]) (by rw [e1]) (by rw [e1]) (by rw [e1]) (e2 _ (by omega)) (e2 _ (by omega)) (e2 _ (by omega)) (by rw [f2]) (f1 _ (by omega)), h6.cg (by rw [e1]) (e2 _ (by omega)) (by rw [f2]) (f1 _ (by omega)), h7.set (r := r) (z := z) (upd (s.2.1 (11 + r)) a v3) hr z1 (fun q hq => ?_) (fun j hj => by rw [e4]) e5 (fun q hq => ?_) (fun j hj => ?_) (fun p hp => ?_)⟩
        · rw [e2 14 (by omega)]
          by_cases w : q = r
          · rw [if_pos w, w, z2]
          · rw [if_neg w]
        · rw [f1 3 (by omega)]
          by_cases w : q = r
          · rw [if_pos w, w, z3]
          · rw [if_neg w]
        · rw [f3, upd_q, upd_q]
          by_cases w : j = a
          · rw [if_pos w, if_pos (by omega)]
          · rw [if_neg w, if_neg (by omega), z4 j hj]
        · rw [f3, upd_q, if_neg (by omega)]
      rw [if_neg (by rw [l0, nI_ltp (by omega) (by omega)]; omega), if_pos (by rw [nI_ltp (by omega) (by omega)]; exact ha), ib_t c, n40, nI_add, inb_t (show a < 40 by omega) (by omega), inb_t (show 40 * r + a < 120 by omega) (by omega), nI_clamp (by omega), nI_clamp (by omega)]
      simp only [gd_t, nm_u]
      have row : ∃ s', row3 (nI r) (some ((1 : Int32), sA s 11 (upd (s.2.1 11) a v3))) (some ((1 : Int32), sA s 12 (upd (s.2.1 12) a v3))) (some ((1 : Int32), sA s 13 (upd (s.2.1 13) a v3))) = some ((1 : Int32), s') ∧ s' = sA s (11 + r) (upd (s.2.1 (11 + r)) a v3) := by
        have key : ∀ r, r < 3 → ∃ s', row3 (nI r) (some ((1 : Int32), sA s 11 (upd (s.2.1 11) a v3))) (some ((1 : Int32), sA s 12 (upd (s.2.1 12) a v3))) (some ((1 : Int32), sA s 13 (upd (s.2.1 13) a v3))) = some ((1 : Int32), s') ∧ s' = sA s (11 + r) (upd (s.2.1 (11 + r)) a v3) := case_of ⟨_, rfl, rfl⟩ ⟨_, rfl, rfl⟩ ⟨_, rfl, rfl⟩
        exact key r hr
      obtain ⟨s', er, es⟩ := row
      rw [er]
      refine ⟨_, _, _, rfl, rfl, fin s' _ (by rw [es]; rfl) (fun p hp => by rw [es, st_AA, if_neg (by omega)]) (by rw [es]; rfl) (fun p hp => by rw [st_AA, if_neg hp]) rfl (by rw [es, st_AA, if_pos rfl]) (fun q hq hqr => by rw [es, st_AA, if_neg (by omega)]) (by rw [st_AA, if_pos rfl])⟩
    · have c' : inR v2 z = false := by simpa using c
      have d : ¬ (0 ≤ v2.toInt ∧ v2.toInt < z) := of_decide_eq_false c'
      rw [ib_f c']
      by_cases c1 : v2.toInt < 0
      · rw [if_pos (by rw [lt0_iff]; exact c1)]
        exact ⟨_, _, _, rfl, rfl, h.mono⟩
      · rw [if_neg (by rw [lt0_iff]; exact c1), if_neg (by rw [ltn_iff (by omega)]; omega)]
        exact ⟨_, _, _, rfl, rfl, h.mono⟩
theorem case_get {k : Nat} {s u : ST} (h : Inv k s u) (v1 v2 : Int32) : ∃ r, X6_get s v1 v2 = some r ∧ X7_get u v1 v2 = some r ∧ Inv (k + 1) s u := by
  obtain ⟨t, h1, h2, h3, h4, h5, h6, h7⟩ := id h
  unfold X6_get X7_get
  rw [(isRow_2 v1).1, (isRow_2 v1).2, bd_s, bd_s]
  refine bc (b := inR v1 3) (fun q => ⟨_, by rw [ib_f q], by rw [ib_f q], h.mono⟩) fun q1 => ?_
  obtain ⟨r, hr, rfl⟩ := inR_t q1 (by omega)
  obtain ⟨e, g⟩ := h7 r hr
  rw [ib_t q1, ib_t q1, inb_t (show r < 3 from hr) (by omega), gd_t, gd_t, nI_clamp (by omega), ← e]
  rcases g with g | ⟨z, z1, z2, z3⟩
  · rw [g, X7_in_none, bd_s, ib_f rfl]
    by_cases c1 : v2 < 0
    · rw [if_pos c1]
      exact ⟨_, rfl, rfl, h.mono⟩
    · rw [if_neg c1, if_neg (by
        rw [lt0_iff] at c1
        rw [Int32.lt_iff_toInt_lt, show (-1 : Int32).toInt = -1 from by decide]
        omega)]
      exact ⟨_, rfl, rfl, h.mono⟩
  · rw [z2, X7_in_m1 (by omega), bd_s]
    by_cases c : inR v2 z = true
    · obtain ⟨a, ha, rfl⟩ := inR_t c (by omega)
      rw [if_neg (by rw [l0, nI_ltp (by omega) (by omega)]; omega), if_pos (by rw [nI_ltp (by omega) (by omega)]; exact ha), ib_t c, n40, nI_add, inb_t (show a < 40 by omega) (by omega), inb_t (show 40 * r + a < 120 by omega) (by omega), nI_clamp (by omega), nI_clamp (by omega), ← z3 a ha]
      simp only [gd_t]
      have key : ∀ r, r < 3 → row3 (nI r) (some (s.2.1 11 a).toInt64) (some (s.2.1 12 a).toInt64) (some (s.2.1 13 a).toInt64) = some (s.2.1 (11 + r) a).toInt64 := case_of rfl rfl rfl
      rw [key r hr]
      exact ⟨_, rfl, rfl, h.mono⟩
    · have c' : inR v2 z = false := by simpa using c
      have d : ¬ (0 ≤ v2.toInt ∧ v2.toInt < z) := of_decide_eq_false c'
      rw [ib_f c']
      by_cases c1 : v2.toInt < 0
      · rw [if_pos (by rw [lt0_iff]; exact c1)]
        exact ⟨_, rfl, rfl, h.mono⟩
      · rw [if_neg (by rw [lt0_iff]; exact c1), if_neg (by rw [ltn_iff (by omega)]; omega)]
        exact ⟨_, rfl, rfl, h.mono⟩
