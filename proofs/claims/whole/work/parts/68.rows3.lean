/-! PURE 23: copy, film, judge -/
theorem sub_z {z : Nat} {v : Int32} (hz : z ≤ 40) (hv : 0 ≤ v.toInt) : (nI z - v).toInt = (z : Int) - v.toInt := by
  have h := v.toInt_lt
  have h2 := v.le_toInt
  rw [Int32.toInt_sub, nI_toInt (by omega)]
  apply Int.bmod_eq_of_le <;> omega
theorem long_add {v w : Int32} : (v.toInt64 + w.toInt64).toInt = v.toInt + w.toInt := by
  have h1 := v.toInt_lt
  have h2 := v.le_toInt
  have h3 := w.toInt_lt
  have h4 := w.le_toInt
  rw [Int64.toInt_add, Int32.toInt_toInt64, Int32.toInt_toInt64]
  apply Int.bmod_eq_of_le <;> omega
theorem acp_ok : ∀ {a b c : Nat}, a + c ≤ 40 → b + c ≤ 40 → acp (nI a) (nI b) (nI c) 40 40 = true := by
  intro a b c h1 h2
  unfold acp
  refine decide_eq_true ⟨?_, ?_, ?_, ?_, ?_⟩
  · rw [l0, nI_ltp (by omega) (by omega)]; omega
  · rw [l0, nI_ltp (by omega) (by omega)]; omega
  · rw [l0, nI_ltp (by omega) (by omega)]; omega
  · rw [nI_clamp (by omega), nI_clamp (by omega)]; exact h1
  · rw [nI_clamp (by omega), nI_clamp (by omega)]; exact h2
def blk2 (a g : Nat → Int32) (o i : Nat) : Nat → Int32 := fun p => if o ≤ p ∧ p < o + i then g (p - o) else a p
theorem blk2_0 (a g : Nat → Int32) (o : Nat) : blk2 a g o 0 = a := funext fun p => if_neg (by omega)
theorem blk2_u (a g : Nat → Int32) (o i : Nat) : upd (blk2 a g o i) (o + i) (g i) = blk2 a g o (i + 1) := funext fun p => by
  unfold upd blk2
  by_cases e : p = o + i
  · subst e; rw [if_pos rfl, if_pos (by omega), show o + i - o = i by omega]
  · rw [if_neg e]
    by_cases q : o ≤ p ∧ p < o + i
    · rw [if_pos q, if_pos (by omega)]
    · rw [if_neg q, if_neg (by omega)]
theorem copy_M1 {N r a c : Nat} {s : ST} (hN : 50 < N) (hr : r < 3) (hc : a + c ≤ 40) : X7_copy_L1 (nI r) (nI a) (nI c) N (nI 0) s = some (sA s 5 (fl (s.2.1 5) (fun j => s.2.1 4 (40 * r + a + j)) c)) := by
  have h := loop0 (F := fun j i (y : ST) => X7_copy_L1 (nI r) (nI a) (nI c) j (nI i) y) (t := sA s 5 (fl (s.2.1 5) (fun j => s.2.1 4 (40 * r + a + j)) c)) c (fun i => sA s 5 (fl (s.2.1 5) (fun j => s.2.1 4 (40 * r + a + j)) i)) (fun j i hi => by
      show X7_copy_L1_b (nI r) (nI a) (nI c) (X7_copy_L1 (nI r) (nI a) (nI c) j) (nI i) _ = _
      unfold X7_copy_L1_b
      rw [if_neg (by rw [nI_lep (by omega) (by omega)]; omega), n40, nI_add, nI_add, inb_t (show 40 * r + a + i < 120 by omega) (by omega), gd_t, inb_t (show i < 40 by omega) (by omega), gd_t]
      simp only [nm_u, nI_clamp (show 40 * r + a + i < 2 ^ 31 by omega), nI_clamp (show i < 2 ^ 31 by omega), nI_1, st_AA, if_true, sA_sA]
      rw [← fl_u (s.2.1 5) (fun j => s.2.1 4 (40 * r + a + j)) i]
      rfl) (fun j => by
      show X7_copy_L1_b (nI r) (nI a) (nI c) (X7_copy_L1 (nI r) (nI a) (nI c) j) (nI c) _ = _
      unfold X7_copy_L1_b
      rw [if_pos (by rw [nI_lep (by omega) (by omega)]; exact Nat.le_refl _)]) (k := N) (by omega)
  rw [fl_0, sA_id] at h
  exact h
theorem copy_M2 {N r b c : Nat} {s : ST} (hN : 50 < N) (hr : r < 3) (hc : b + c ≤ 40) : X7_copy_L2 (nI r) (nI b) (nI c) N (nI 0) s = some (sA s 4 (blk2 (s.2.1 4) (s.2.1 5) (40 * r + b) c)) := by
  have h := loop0 (F := fun j i (y : ST) => X7_copy_L2 (nI r) (nI b) (nI c) j (nI i) y) (t := sA s 4 (blk2 (s.2.1 4) (s.2.1 5) (40 * r + b) c)) c (fun i => sA s 4 (blk2 (s.2.1 4) (s.2.1 5) (40 * r + b) i)) (fun j i hi => by
      show X7_copy_L2_b (nI r) (nI b) (nI c) (X7_copy_L2 (nI r) (nI b) (nI c) j) (nI i) _ = _
      unfold X7_copy_L2_b
      rw [if_neg (by rw [nI_lep (by omega) (by omega)]; omega), n40, nI_add, nI_add, inb_t (show 40 * r + b + i < 120 by omega) (by omega), inb_t (show i < 40 by omega) (by omega), gd_t, gd_t]
      simp only [nm_u, nI_clamp (show 40 * r + b + i < 2 ^ 31 by omega), nI_clamp (show i < 2 ^ 31 by omega), nI_1, st_AA, if_true, sA_sA]
      rw [← blk2_u (s.2.1 4) (s.2.1 5) (40 * r + b) i]
      rfl) (fun j => by
      show X7_copy_L2_b (nI r) (nI b) (nI c) (X7_copy_L2 (nI r) (nI b) (nI c) j) (nI c) _ = _
      unfold X7_copy_L2_b
      rw [if_pos (by rw [nI_lep (by omega) (by omega)]; exact Nat.le_refl _)]) (k := N) (by omega)
  rw [blk2_0, sA_id] at h
  exact h
theorem copy_X {s : ST} {a b c : Nat} (h1 : a + c ≤ 40) (h2 : b + c ≤ 40) : ∀ r, r < 3 → ∀ q, q < 3 → row3 (nI r)
    (row3 (nI q) (gd (acp (nI a) (nI b) (nI c) 40 40) (nm (sA s 11 (va_cpy (s.2.1 11) (s.2.1 11) (nI a).toNatClampNeg (nI b).toNatClampNeg (nI c).toNatClampNeg)) fun s23 => some (nI c, s23))) (gd (acp (nI a) (nI b) (nI c) 40 40) (nm (sA s 12 (va_cpy (s.2.1 11) (s.2.1 12) (nI a).toNatClampNeg (nI b).toNatClampNeg (nI c).toNatClampNeg)) fun s23 => some (nI c, s23))) (gd (acp (nI a) (nI b) (nI c) 40 40) (nm (sA s 13 (va_cpy (s.2.1 11) (s.2.1 13) (nI a).toNatClampNeg (nI b).toNatClampNeg (nI c).toNatClampNeg)) fun s23 => some (nI c, s23))))
    (row3 (nI q) (gd (acp (nI a) (nI b) (nI c) 40 40) (nm (sA s 11 (va_cpy (s.2.1 12) (s.2.1 11) (nI a).toNatClampNeg (nI b).toNatClampNeg (nI c).toNatClampNeg)) fun s23 => some (nI c, s23))) (gd (acp (nI a) (nI b) (nI c) 40 40) (nm (sA s 12 (va_cpy (s.2.1 12) (s.2.1 12) (nI a).toNatClampNeg (nI b).toNatClampNeg (nI c).toNatClampNeg)) fun s23 => some (nI c, s23))) (gd (acp (nI a) (nI b) (nI c) 40 40) (nm (sA s 13 (va_cpy (s.2.1 12) (s.2.1 13) (nI a).toNatClampNeg (nI b).toNatClampNeg (nI c).toNatClampNeg)) fun s23 => some (nI c, s23))))
    (row3 (nI q) (gd (acp (nI a) (nI b) (nI c) 40 40) (nm (sA s 11 (va_cpy (s.2.1 13) (s.2.1 11) (nI a).toNatClampNeg (nI b).toNatClampNeg (nI c).toNatClampNeg)) fun s23 => some (nI c, s23))) (gd (acp (nI a) (nI b) (nI c) 40 40) (nm (sA s 12 (va_cpy (s.2.1 13) (s.2.1 12) (nI a).toNatClampNeg (nI b).toNatClampNeg (nI c).toNatClampNeg)) fun s23 => some (nI c, s23))) (gd (acp (nI a) (nI b) (nI c) 40 40) (nm (sA s 13 (va_cpy (s.2.1 13) (s.2.1 13) (nI a).toNatClampNeg (nI b).toNatClampNeg (nI c).toNatClampNeg)) fun s23 => some (nI c, s23))))
    = some (nI c, sA s (11 + q) (va_cpy (s.2.1 (11 + r)) (s.2.1 (11 + q)) a b c)) := by
  rw [acp_ok h1 h2, nI_clamp (by omega), nI_clamp (by omega), nI_clamp (by omega)]
  simp only [gd_t, nm_u]
  refine case_of ?_ ?_ ?_
  all_goals exact case_of rfl rfl rfl
theorem case_copy {k N : Nat} {s u : ST} (h : Inv k s u) (hN : 300 < N) (v1 v2 v3 v4 v5 : Int32) : ∃ r s' u', X6_copy s v1 v2 v3 v4 v5 = some (r, s') ∧ X7_copy N u v1 v2 v3 v4 v5 = some (r, u') ∧ Inv (k + 1) s' u' := by
  obtain ⟨t, h1, h2, h3, h4, h5, h6, h7⟩ := id h
  unfold X6_copy X7_copy
  rw [(isRow_2 v1).1, (isRow_2 v1).2, bd_s, bd_s]
  refine bc (b := inR v1 3) (fun q => ⟨_, _, _, by rw [ib_f q], by rw [ib_f q], h.mono⟩) fun q1 => ?_
  rw [ib_t q1, ib_t q1, (isRow_2 v3).1, (isRow_2 v3).2, bd_s, bd_s]
  refine bc (b := inR v3 3) (fun q => ⟨_, _, _, by rw [ib_f q], by rw [ib_f q], h.mono⟩) fun q3 => ?_
  obtain ⟨r, hr, rfl⟩ := inR_t q1 (by omega)
  obtain ⟨q, hq, rfl⟩ := inR_t q3 (by omega)
  obtain ⟨b1, e1, g1, g2, g3⟩ := isThere_v h7 hr
  obtain ⟨b3, f1, i1, i2, i3⟩ := isThere_v h7 hq
  rw [ib_t q3, ib_t q3, e1, bd_s, f1, bd_s]
  simp only [inb_t (show r < 3 from hr) (by omega), inb_t (show q < 3 from hq) (by omega), gd_t, nI_clamp (show r < 2 ^ 31 by omega), nI_clamp (show q < 2 ^ 31 by omega)]
  cases b1 with
  | false =>
    rw [ib_f rfl, if_pos (show u.2.1 3 r < 0 from g2.mp rfl)]
    exact ⟨_, _, _, rfl, rfl, h.mono⟩
  | true =>
    obtain ⟨z, z1, z2, z3, z4⟩ := g3 rfl
    rw [ib_t rfl, if_neg (show ¬ u.2.1 3 r < 0 from fun w => by cases g2.mpr w)]
    cases b3 with
    | false =>
      rw [ib_f rfl, if_neg (show ¬ 0 ≤ u.2.1 3 q from fun w => by cases i1.mpr w)]
      exact ⟨_, _, _, rfl, rfl, h.mono⟩
    | true =>
      obtain ⟨y, y1, y2, y3, y4⟩ := i3 rfl
      rw [ib_t rfl, if_pos (show 0 ≤ u.2.1 3 q from i1.mp rfl)]
      by_cases c5 : v5 < 0
      · rw [if_pos c5, if_pos c5]
        exact ⟨_, _, _, rfl, rfl, h.mono⟩
      rw [if_neg c5, if_neg c5]
      by_cases c2 : v2 < 0
      · rw [if_pos c2, if_pos c2]
        exact ⟨_, _, _, rfl, rfl, h.mono⟩
      rw [if_neg c2, if_neg c2]
      have n5 : 0 ≤ v5.toInt := by rw [lt0_iff] at c5; omega
      have n2 : 0 ≤ v2.toInt := by rw [lt0_iff] at c2; omega
      by_cases c4 : v4 < 0
      · have : ¬ 0 ≤ v4 := by
          rw [Int32.le_iff_toInt_le, show (0 : Int32).toInt = 0 from by decide]
          rw [lt0_iff] at c4
          omega
        rw [if_pos c4, if_neg this]
        exact ⟨_, _, _, rfl, rfl, h.mono⟩
      have n4 : 0 ≤ v4.toInt := by rw [lt0_iff] at c4; omega
      rw [if_neg c4, if_pos (show 0 ≤ v4 by rw [Int32.le_iff_toInt_le, show (0 : Int32).toInt = 0 from by decide]; exact n4), z2, z3, y2, y3]
      have s1 := sub_z (v := v2) z1 n2
      have s2 := sub_z (v := v4) y1 n4
      by_cases c6 : (z : Int) - v2.toInt < v5.toInt
      · rw [if_pos (show nI z - v2 < v5 by rw [Int32.lt_iff_toInt_lt, s1]; exact c6), if_pos (show 0 < lg_cmp (v2.toInt64 + v5.toInt64) (nI z).toInt64 by
          rw [lg_cmp_gt, Int64.lt_iff_toInt_lt, long_add, Int32.toInt_toInt64, nI_toInt (by omega)]
          omega)]
        exact ⟨_, _, _, rfl, rfl, h.mono⟩
      rw [if_neg (by rw [Int32.lt_iff_toInt_lt, s1]; exact c6), if_neg (show ¬ 0 < lg_cmp (v2.toInt64 + v5.toInt64) (nI z).toInt64 by
          rw [lg_cmp_gt, Int64.lt_iff_toInt_lt, long_add, Int32.toInt_toInt64, nI_toInt (by omega)]
          omega)]
      by_cases c7 : v5.toInt ≤ (y : Int) - v4.toInt
      · rw [if_pos (show v5 ≤ nI y - v4 by rw [Int32.le_iff_toInt_le, s2]; exact c7), if_pos (show lg_cmp (v4.toInt64 + v5.toInt64) (nI y).toInt64 ≤ 0 by
          rw [lg_cmp_le, Int64.le_iff_toInt_le, long_add, Int32.toInt_toInt64, nI_toInt (by omega)]
          omega)]
        obtain ⟨a, ha, rfl⟩ : ∃ m, m < 41 ∧ v2 = nI m := inR_t (n := 41) (decide_eq_true (by omega)) (by omega)
        obtain ⟨b, hb, rfl⟩ : ∃ m, m < 41 ∧ v4 = nI m := inR_t (n := 41) (decide_eq_true (by omega)) (by omega)
        obtain ⟨c, hc, rfl⟩ : ∃ m, m < 41 ∧ v5 = nI m := inR_t (n := 41) (decide_eq_true (by omega)) (by omega)
        rw [nI_toInt (by omega), nI_toInt (by omega)] at c6 c7
        have k1 : a + c ≤ z := by omega
        have k2 : b + c ≤ y := by omega
        rw [copy_X (by omega) (by omega) r hr q hq, l0, copy_M1 (by omega) hr (by omega), bd_s, copy_M2 (by omega) hq (by omega), bd_s]
        refine ⟨_, _, _, rfl, rfl, t, h1, h2.cg rfl rfl rfl ?_ ?_ ?_, h3.cg rfl rfl rfl rfl rfl rfl, h4.cg rfl rfl rfl rfl rfl rfl ?_ ?_ ?_ rfl, h5.cg rfl rfl rfl rfl ?_ ?_ ?_ rfl rfl, h6.cg rfl ?_ rfl rfl, h7.set (r := q) (z := y) (va_cpy (s.2.1 (11 + r)) (s.2.1 (11 + q)) a b c) hq (by omega) (fun p hp => ?_) (fun j hj => ?_) (fun p hp e => ?_) (fun p hp => ?_) (fun j hj => ?_) (fun p hp => ?_)⟩
        all_goals first
          | (rw [st_AA, if_neg (by omega)]; done)
          | skip
        · rw [st_AA, if_neg (by omega)]
          by_cases w : p = q
          · rw [if_pos w, w, y2]
          · rw [if_neg w]
        · rw [st_AA, if_pos rfl]
        · show u.2.1 3 p = _
          by_cases w : p = q
          · rw [if_pos w, w, y3]
          · rw [if_neg w]
        · rw [st_AA, if_pos rfl]
          show blk2 (u.2.1 4) (fl (u.2.1 5) (fun j => u.2.1 4 (40 * r + a + j)) c) (40 * q + b) c (40 * q + j) = _
          unfold blk2 va_cpy
          by_cases w : b ≤ j ∧ j < b + c
          · rw [if_pos (by omega), if_pos w, fl_in (by omega), z4 _ (by omega)]
            show u.2.1 4 (40 * r + a + (40 * q + j - (40 * q + b))) = u.2.1 4 (40 * r + (a + (j - b)))
            rw [show 40 * r + a + (40 * q + j - (40 * q + b)) = 40 * r + (a + (j - b)) by omega]
          · rw [if_neg (by omega), if_neg w, y4 j hj]
        · rw [st_AA, if_pos rfl]
          show blk2 (u.2.1 4) (fl (u.2.1 5) (fun j => u.2.1 4 (40 * r + a + j)) c) (40 * q + b) c p = _
          unfold blk2
          rw [if_neg (by omega)]
      · rw [if_neg (show ¬ v5 ≤ nI y - v4 by rw [Int32.le_iff_toInt_le, s2]; exact c7), if_neg (show ¬ lg_cmp (v4.toInt64 + v5.toInt64) (nI y).toInt64 ≤ 0 by
          rw [lg_cmp_le, Int64.le_iff_toInt_le, long_add, Int32.toInt_toInt64, nI_toInt (by omega)]
          omega)]
        exact ⟨_, _, _, rfl, rfl, h.mono⟩
