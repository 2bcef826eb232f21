/-! PURE 21: rows -/
theorem rw3_0 {α : Type} (a b c : Option α) : row3 (nI 0) a b c = a := rfl
theorem rw3_1 {α : Type} (a b c : Option α) : row3 (nI 1) a b c = b := rfl
theorem rw3_2 {α : Type} (a b c : Option α) : row3 (nI 2) a b c = c := rfl
theorem n40 {r : Nat} : (40 : Int32) * nI r = nI (40 * r) := pk_mul (a := 40) (b := r)
theorem l40 : (40 : Int32) = nI 40 := rfl
theorem X7_in_m1 {v : Int32} {k : Nat} (hk : k < 2 ^ 31) : X7_in v (0 : Int32) (nI k - (1 : Int32)) = some (bI (inR v k)) := by
  by_cases h : 0 < k
  · rw [nI_m1 h, X7_inR h hk]
  · rw [show k = 0 by omega]
    have e : inR v 0 = false := decide_eq_false (by omega)
    rw [e]
    unfold X7_in
    rw [show nI 0 - (1 : Int32) = -1 from by decide]
    by_cases h0 : v < 0
    · rw [if_pos h0]; rfl
    · rw [if_neg h0]
      have : (-1 : Int32) < v := by
        rw [Int32.lt_iff_toInt_lt]
        rw [lt0_iff] at h0
        have : (-1 : Int32).toInt = -1 := by decide
        omega
      rw [if_pos this]; rfl
theorem X7_in_none {v : Int32} : X7_in v (0 : Int32) ((-1 : Int32) - (1 : Int32)) = some (bI false) := by
  unfold X7_in
  by_cases h0 : v < 0
  · rw [if_pos h0]; rfl
  · rw [if_neg h0]
    have : (-1 : Int32) - (1 : Int32) < v := by
      rw [Int32.lt_iff_toInt_lt]
      rw [lt0_iff] at h0
      have : ((-1 : Int32) - (1 : Int32)).toInt = -2 := by decide
      omega
    rw [if_pos this]; rfl
/-- one row is set anew -/
theorem RWok.set {s s' u u' : ST} (h : RWok s u) {r z : Nat} (g : Nat → Int32) (hr : r < 3) (hz : z ≤ 40) (a1 : ∀ q, q < 3 → s'.2.1 14 q = if q = r then nI z else s.2.1 14 q) (a2 : ∀ j, j < z → s'.2.1 (11 + r) j = g j) (a3 : ∀ q, q < 3 → q ≠ r → s'.2.1 (11 + q) = s.2.1 (11 + q)) (b1 : ∀ q, q < 3 → u'.2.1 3 q = if q = r then nI z else u.2.1 3 q) (b2 : ∀ j, j < z → u'.2.1 4 (40 * r + j) = g j) (b3 : ∀ p, p < 40 * r ∨ 40 * r + 40 ≤ p → u'.2.1 4 p = u.2.1 4 p) : RWok s' u' := by
  intro q hq
  rw [a1 q hq, b1 q hq]
  by_cases e : q = r
  · subst e
    rw [if_pos rfl, if_pos rfl]
    exact ⟨rfl, Or.inr ⟨z, hz, rfl, fun j hj => by rw [a2 j hj, b2 j hj]⟩⟩
  · rw [if_neg e, if_neg e, a3 q hq e]
    obtain ⟨h1, h2⟩ := h q hq
    refine ⟨h1, h2.imp id fun ⟨y, y1, y2, y3⟩ => ⟨y, y1, y2, fun j hj => ?_⟩⟩
    rw [b3 _ (by omega)]
    exact y3 j hj
theorem case_of {P : Nat → Prop} (h0 : P 0) (h1 : P 1) (h2 : P 2) : ∀ r, r < 3 → P r := fun r hr => by
  have : r = 0 ∨ r = 1 ∨ r = 2 := by omega
  rcases this with rfl | rfl | rfl
  · exact h0
  · exact h1
  · exact h2
/-- the state of a row's own array -/
theorem rowL_X {N z : Nat} {s : ST} (hN : 50 < N) (hz : z ≤ 40) : ∀ r, r < 3 → X6_row_L1 (nI r) (nI z) N (nI 0) s = some (sA s (11 + r) (fl (s.2.1 (11 + r)) (fun _ => nI 0) z)) := by
  refine case_of ?_ ?_ ?_
  · have h := loop0 (F := fun j i (y : ST) => X6_row_L1 (nI 0) (nI z) j (nI i) y) (t := sA s 11 (fl (s.2.1 11) (fun _ => nI 0) z)) z (fun i => sA s 11 (fl (s.2.1 11) (fun _ => nI 0) i)) (fun j i hi => by
        show X6_row_L1_b (nI 0) (nI z) (X6_row_L1 (nI 0) (nI z) j) (nI i) _ = _
        unfold X6_row_L1_b
        rw [if_neg (by rw [nI_lep (by omega) (by omega)]; omega), rw3_0, inb_t (show i < 40 by omega) (by omega), gd_t]
        simp only [nm_u, nI_clamp (show i < 2 ^ 31 by omega), nI_1, st_AA, if_true, sA_sA]
        rw [← fl_u (s.2.1 11) (fun _ => nI 0) i]
        rfl) (fun j => by
        show X6_row_L1_b (nI 0) (nI z) (X6_row_L1 (nI 0) (nI z) j) (nI z) _ = _
        unfold X6_row_L1_b
        rw [if_pos (by rw [nI_lep (by omega) (by omega)]; exact Nat.le_refl _)]) (k := N) (by omega)
    rw [fl_0, sA_id] at h
    exact h
  · have h := loop0 (F := fun j i (y : ST) => X6_row_L1 (nI 1) (nI z) j (nI i) y) (t := sA s 12 (fl (s.2.1 12) (fun _ => nI 0) z)) z (fun i => sA s 12 (fl (s.2.1 12) (fun _ => nI 0) i)) (fun j i hi => by
        show X6_row_L1_b (nI 1) (nI z) (X6_row_L1 (nI 1) (nI z) j) (nI i) _ = _
        unfold X6_row_L1_b
        rw [if_neg (by rw [nI_lep (by omega) (by omega)]; omega), rw3_1, inb_t (show i < 40 by omega) (by omega), gd_t]
        simp only [nm_u, nI_clamp (show i < 2 ^ 31 by omega), nI_1, st_AA, if_true, sA_sA]
        rw [← fl_u (s.2.1 12) (fun _ => nI 0) i]
        rfl) (fun j => by
        show X6_row_L1_b (nI 1) (nI z) (X6_row_L1 (nI 1) (nI z) j) (nI z) _ = _
        unfold X6_row_L1_b
        rw [if_pos (by rw [nI_lep (by omega) (by omega)]; exact Nat.le_refl _)]) (k := N) (by omega)
    rw [fl_0, sA_id] at h
    exact h
  · have h := loop0 (F := fun j i (y : ST) => X6_row_L1 (nI 2) (nI z) j (nI i) y) (t := sA s 13 (fl (s.2.1 13) (fun _ => nI 0) z)) z (fun i => sA s 13 (fl (s.2.1 13) (fun _ => nI 0) i)) (fun j i hi => by
        show X6_row_L1_b (nI 2) (nI z) (X6_row_L1 (nI 2) (nI z) j) (nI i) _ = _
        unfold X6_row_L1_b
        rw [if_neg (by rw [nI_lep (by omega) (by omega)]; omega), rw3_2, inb_t (show i < 40 by omega) (by omega), gd_t]
        simp only [nm_u, nI_clamp (show i < 2 ^ 31 by omega), nI_1, st_AA, if_true, sA_sA]
        rw [← fl_u (s.2.1 13) (fun _ => nI 0) i]
        rfl) (fun j => by
        show X6_row_L1_b (nI 2) (nI z) (X6_row_L1 (nI 2) (nI z) j) (nI z) _ = _
        unfold X6_row_L1_b
        rw [if_pos (by rw [nI_lep (by omega) (by omega)]; exact Nat.le_refl _)]) (k := N) (by omega)
    rw [fl_0, sA_id] at h
    exact h
def blk (a g : Nat → Int32) (r i : Nat) : Nat → Int32 := fun p => if 40 * r ≤ p ∧ p < 40 * r + i then g (p - 40 * r) else a p
theorem blk_0 (a g : Nat → Int32) (r : Nat) : blk a g r 0 = a := funext fun p => if_neg (by omega)
theorem blk_u (a g : Nat → Int32) (r i : Nat) : upd (blk a g r i) (40 * r + i) (g i) = blk a g r (i + 1) := funext fun p => by
  unfold upd blk
  by_cases e : p = 40 * r + i
  · subst e; rw [if_pos rfl, if_pos (by omega), show 40 * r + i - 40 * r = i by omega]
  · rw [if_neg e]
    by_cases q : 40 * r ≤ p ∧ p < 40 * r + i
    · rw [if_pos q, if_pos (by omega)]
    · rw [if_neg q, if_neg (by omega)]
theorem blk_in {a g : Nat → Int32} {r i j : Nat} (h : j < i) : blk a g r i (40 * r + j) = g j := by
  unfold blk
  rw [if_pos (by omega), show 40 * r + j - 40 * r = j by omega]
theorem blk_out {a g : Nat → Int32} {r i p : Nat} (hi : i ≤ 40) (h : p < 40 * r ∨ 40 * r + 40 ≤ p) : blk a g r i p = a p := if_neg (by omega)
theorem rowL_M {N r z : Nat} {s : ST} (hN : 50 < N) (hz : z ≤ 40) (hr : r < 3) : X7_row_L1 (nI r) (nI z) N (nI 0) s = some (sA s 4 (blk (s.2.1 4) (fun _ => nI 0) r z)) := by
  have h := loop0 (F := fun j i (y : ST) => X7_row_L1 (nI r) (nI z) j (nI i) y) (t := sA s 4 (blk (s.2.1 4) (fun _ => nI 0) r z)) z (fun i => sA s 4 (blk (s.2.1 4) (fun _ => nI 0) r i)) (fun j i hi => by
      show X7_row_L1_b (nI r) (nI z) (X7_row_L1 (nI r) (nI z) j) (nI i) _ = _
      unfold X7_row_L1_b
      rw [if_neg (by rw [nI_lep (by omega) (by omega)]; omega), n40, nI_add, inb_t (show 40 * r + i < 120 by omega) (by omega), gd_t]
      simp only [nm_u, nI_clamp (show 40 * r + i < 2 ^ 31 by omega), nI_1, st_AA, if_true, sA_sA]
      rw [← blk_u (s.2.1 4) (fun _ => nI 0) r i]
      rfl) (fun j => by
      show X7_row_L1_b (nI r) (nI z) (X7_row_L1 (nI r) (nI z) j) (nI z) _ = _
      unfold X7_row_L1_b
      rw [if_pos (by rw [nI_lep (by omega) (by omega)]; exact Nat.le_refl _)]) (k := N) (by omega)
  rw [blk_0, sA_id] at h
  exact h
theorem isRow_2 (v : Int32) : X6_isRow v = some (bI (inR v 3)) ∧ X7_isRow v = some (bI (inR v 3)) := ⟨X6_isRow_v v, X7_isRow_v v⟩
theorem upd_q {a : Nat → Int32} {r q : Nat} {x : Int32} : upd a r x q = if q = r then x else a q := rfl
theorem case_row {k N : Nat} {s u : ST} (h : Inv k s u) (hN : 300 < N) (v1 v2 : Int32) : ∃ r s' u', X6_row N s v1 v2 = some (r, s') ∧ X7_row N u v1 v2 = some (r, u') ∧ Inv (k + 1) s' u' := by
  obtain ⟨t, h1, h2, h3, h4, h5, h6, h7⟩ := id h
  unfold X6_row X7_row
  rw [(isRow_2 v1).1, (isRow_2 v1).2, bd_s, bd_s]
  refine bc (b := inR v1 3) (fun q => ⟨_, _, _, by rw [ib_f q], by rw [ib_f q], h.mono⟩) fun q1 => ?_
  obtain ⟨r, hr, rfl⟩ := inR_t q1 (by omega)
  rw [ib_t q1, ib_t q1]
  by_cases c1 : v2 ≤ (40 : Int32)
  · rw [if_pos c1, if_pos c1]
    by_cases c2 : 0 ≤ v2
    · rw [if_pos c2, if_pos c2]
      have : ∃ z, z < 41 ∧ v2 = nI z := inR_t (n := 41) (decide_eq_true (by
        rw [l40, len_iff (by omega)] at c1
        rw [Int32.le_iff_toInt_le, show (0 : Int32).toInt = 0 from by decide] at c2
        omega)) (by omega)
      obtain ⟨z, hz, rfl⟩ := this
      rw [inb_t (show r < 3 from hr) (by omega), gd_t, gd_t, nI_clamp (by omega)]
      simp only [nm_u]
      rw [l0, rowL_X (by omega) (by omega) r hr, bd_s, rowL_M (by omega) (by omega) hr, bd_s]
      refine ⟨_, _, _, rfl, rfl, t, h1, h2.cg rfl rfl rfl ?_ ?_ ?_, h3.cg rfl rfl rfl rfl rfl rfl, h4.cg rfl rfl rfl rfl rfl rfl ?_ ?_ ?_ rfl, h5.cg rfl rfl rfl rfl ?_ ?_ ?_ rfl rfl, h6.cg rfl ?_ rfl rfl, h7.set (r := r) (z := z) (fun _ => nI 0) hr (by omega) (fun q hq => ?_) (fun j hj => ?_) (fun q hq e => ?_) (fun q hq => rfl) (fun j hj => ?_) (fun p hp => ?_)⟩
      all_goals first
        | (simp only [st_AA]; rw [if_neg (by omega), if_neg (by omega)])
        | skip
      · show (sA (sA s 14 _) (11 + r) _).2.1 14 q = _
        rw [st_AA, if_neg (by omega), st_AA, if_pos rfl, upd_q]
      · rw [st_AA, if_pos rfl, fl_in hj]
      · rw [st_AA, if_pos rfl, blk_in hj]
      · rw [st_AA, if_pos rfl, blk_out (by omega) hp]; rfl
    · rw [if_neg c2, if_neg c2]
      exact ⟨_, _, _, rfl, rfl, h.mono⟩
  · rw [if_neg c1, if_neg c1]
    exact ⟨_, _, _, rfl, rfl, h.mono⟩
theorem case_lose {k : Nat} {s u : ST} (h : Inv k s u) (v1 : Int32) : ∃ r s' u', X6_lose s v1 = some (r, s') ∧ X7_lose u v1 = some (r, u') ∧ Inv (k + 1) s' u' := by
  obtain ⟨t, h1, h2, h3, h4, h5, h6, h7⟩ := id h
  unfold X6_lose X7_lose
  rw [(isRow_2 v1).1, (isRow_2 v1).2, bd_s, bd_s]
  refine bc (b := inR v1 3) (fun q => ⟨_, _, _, by rw [ib_f q], by rw [ib_f q], h.mono⟩) fun q1 => ?_
  obtain ⟨r, hr, rfl⟩ := inR_t q1 (by omega)
  obtain ⟨b, e, g1, g2, g3⟩ := isThere_v h7 hr
  have eq := (h7 r hr).1
  rw [ib_t q1, ib_t q1, e, bd_s, inb_t (show r < 3 from hr) (by omega), gd_t, nI_clamp (by omega)]
  cases b with
  | false =>
    rw [ib_f rfl, if_neg (fun z => by cases g1.mpr z)]
    exact ⟨_, _, _, rfl, rfl, h.mono⟩
  | true =>
    rw [ib_t rfl, if_pos (g1.mp rfl)]
    simp only [nm_u, gd_t]
    rw [eq]
    refine ⟨_, _, _, rfl, rfl, t, h1, h2.cg rfl rfl rfl rfl rfl rfl, h3.cg rfl rfl rfl rfl rfl rfl, h4.cg rfl rfl rfl rfl rfl rfl rfl rfl rfl rfl, h5.cg rfl rfl rfl rfl rfl rfl rfl rfl rfl, h6.cg rfl rfl rfl rfl, fun q hq => ?_⟩
    by_cases c : q = r
    · subst c
      have e14 : (sA s 14 (upd (s.2.1 14) q (-1))).2.1 14 q = -1 := by rw [st_AA, if_pos rfl, upd_q, if_pos rfl]
      have e3 : (sA u 3 (upd (u.2.1 3) q (-1))).2.1 3 q = -1 := by rw [st_AA, if_pos rfl, upd_q, if_pos rfl]
      exact ⟨e14.trans e3.symm, Or.inl e14⟩
    · have e14 : (sA s 14 (upd (s.2.1 14) r (-1))).2.1 14 q = s.2.1 14 q := by rw [st_AA, if_pos rfl, upd_q, if_neg c]
      have e3 : (sA u 3 (upd (u.2.1 3) r (-1))).2.1 3 q = u.2.1 3 q := by rw [st_AA, if_pos rfl, upd_q, if_neg c]
      have e11 : (sA s 14 (upd (s.2.1 14) r (-1))).2.1 (11 + q) = s.2.1 (11 + q) := by rw [st_AA, if_neg (by omega)]
      rw [e14, e3, e11]
      exact h7 q hq
