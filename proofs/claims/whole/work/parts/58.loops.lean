/-! PURE 13: loops and posts of every base; the round; the swap -/
theorem RK.base {n x z : Nat} {r : Nat → Nat} (h : RK n r) (hz : z < 2 ^ n) (hs : sub x z) (hf : r x = pc x) (hr : r z = r (2 ^ n - 1)) : ∃ b, b < 2 ^ n ∧ isBs n r b = true ∧ sub x b ∧ sub b z := by
  obtain ⟨y, y1, y2, y3, y4⟩ := h.ext hz hs hf
  exact ⟨y, sub_lt y2 hz, isBs_iff.mpr ⟨y3, by omega⟩, y1, y2⟩
theorem in_base {n i : Nat} {r : Nat → Nat} (h : RK n r) (hi : i < n) : (∃ b, b < 2 ^ n ∧ isBs n r b = true ∧ b.testBit i = true) ↔ r (0 ||| 2 ^ i) ≠ r 0 := by
  have hp := Nat.two_pow_pos n
  have hA : 2 ^ n - 1 < 2 ^ n := by omega
  have h1 := h.2.2.1 0 i hp hi
  have p1 := pc_add (Nat.lt_of_lt_of_le hi h.1) (show (0 : Nat).testBit i = false from Nat.zero_testBit i)
  have hl := or_two_lt hp hi
  rw [pc_0] at p1
  rw [h.2.1] at h1 ⊢
  constructor
  · rintro ⟨b, hb, b1, b2⟩ q
    have := h.part hb (show sub (0 ||| 2 ^ i) b from sub_or (sub_0 b) (sub_two b2)) (isBs_iff.mp b1).1
    omega
  · intro q
    obtain ⟨b, b1, b2, b3, -⟩ := h.base (x := 0 ||| 2 ^ i) hA (sub_all hl) (by omega) rfl
    exact ⟨b, b1, b2, b3 i (by rw [Nat.testBit_or, tb_two]; simp)⟩
theorem every_base {n i : Nat} {r : Nat → Nat} (h : RK n r) (hi : i < n) : (∀ b, b < 2 ^ n → isBs n r b = true → b.testBit i = true) ↔ r (dif (2 ^ n - 1) (2 ^ i)) < r (2 ^ n - 1) := by
  have hp := Nat.two_pow_pos n
  have hA : 2 ^ n - 1 < 2 ^ n := by omega
  have hd : dif (2 ^ n - 1) (2 ^ i) < 2 ^ n := dif_lt hA
  have m := h.mono hA (sub_dif (2 ^ n - 1) (2 ^ i))
  constructor
  · intro q
    rcases Nat.lt_or_ge (r (dif (2 ^ n - 1) (2 ^ i))) (r (2 ^ n - 1)) with g | g
    · exact g
    · obtain ⟨b, b1, b2, -, b4⟩ := h.base (x := 0) hd (sub_0 _) (by rw [h.2.1, pc_0]) (by omega)
      have := b4 i (q b b1 b2)
      rw [dif_tb, tb_two] at this
      simp at this
  · intro g b hb hbs
    cases q : b.testBit i with
    | true => rfl
    | false =>
      obtain ⟨b1, b2⟩ := isBs_iff.mp hbs
      have s : sub b (dif (2 ^ n - 1) (2 ^ i)) := fun j hj => by
        rw [dif_tb, sub_all hb j hj, tb_two]
        by_cases e : i = j
        · subst e; rw [hj] at q; cases q
        · simp [e]
      have := h.mono hd s
      omega
theorem loops_M {N n : Nat} {s : ST} {r : Nat → Nat} (hN : 300 < N) (hn : s.1 0 = nI n) (hr : RK n r) (hL : LayOK s n r) : ∃ a o, X7_loops_L1 s N (nI 0) (nI (2 ^ n - 1)) (nI 0) = some (nI a, nI o) ∧ a < 2 ^ n ∧ o < 2 ^ n ∧ (∀ b, b < n → (a.testBit b = true ↔ ∀ x, x < 2 ^ n → isBs n r x = true → x.testBit b = true)) ∧ (∀ b, b < n → (o.testBit b = true ↔ ∃ x, x < 2 ^ n ∧ isBs n r x = true ∧ x.testBit b = true)) := by
  have h8 := hr.1
  have p8 := pow8 h8
  have hp := Nat.two_pow_pos n
  obtain ⟨z, e, a, o, hz, h⟩ := loopInv0 (F := fun j i (z : Int32 × Int32) => X7_loops_L1 s j (nI i) z.1 z.2) (Q := fun z => ∃ a o, z = (nI a, nI o) ∧ a < 2 ^ n ∧ o < 2 ^ n ∧ (∀ b, b < n → (a.testBit b = true ↔ ∀ x, x < 2 ^ n → isBs n r x = true → x.testBit b = true)) ∧ (∀ b, b < n → (o.testBit b = true ↔ ∃ x, x < 2 ^ n ∧ isBs n r x = true ∧ x.testBit b = true))) (fun i z => ∃ a o, z = (nI a, nI o) ∧ a < 2 ^ n ∧ o < 2 ^ n ∧ (∀ b, b < n → (a.testBit b = true ↔ ∀ x, x < i → isBs n r x = true → x.testBit b = true)) ∧ (∀ b, b < n → (o.testBit b = true ↔ ∃ x, x < i ∧ isBs n r x = true ∧ x.testBit b = true))) (2 ^ n) (fun j i z hi ⟨a, o, hz, g1, g2, g3, g4⟩ => by
      subst hz
      show ∃ z', _ ∧ X7_loops_L1_b s (X7_loops_L1 s j) (nI i) (nI a) (nI o) = _
      unfold X7_loops_L1_b
      rw [X7_all_v hn h8, bd_s, if_neg (by rw [nI_ltp (by omega) (by omega)]; omega), inb_t (show i < 256 by omega) (by omega), gd_t, nI_clamp (by omega), (hL i hi).2.2]
      cases q : isBs n r i with
      | false =>
        refine ⟨(nI a, nI o), ⟨a, o, rfl, g1, g2, fun b hb => (g3 b hb).trans ⟨fun h x hx hx2 => ?_, fun h x hx => h x (by omega)⟩, fun b hb => (g4 b hb).trans ⟨fun ⟨x, h1, h2⟩ => ⟨x, by omega, h2⟩, fun ⟨x, h1, h2, h3⟩ => ⟨x, ?_, h2, h3⟩⟩⟩, ?_⟩
        · by_cases e : x = i
          · subst e; rw [q] at hx2; cases hx2
          · exact h x (by omega) hx2
        · by_cases e : x = i
          · subst e; rw [q] at h2; cases h2
          · omega
        · rw [ib_f rfl, nm_u, nI_1]
      | true =>
        refine ⟨(nI (a &&& i), nI (o ||| i)), ⟨a &&& i, o ||| i, rfl, sub_lt (sub_and_l a i) g1, Nat.or_lt_two_pow g2 hi, fun b hb => ?_, fun b hb => ?_⟩, ?_⟩
        · rw [Nat.testBit_and, Bool.and_eq_true, g3 b hb]
          constructor
          · rintro ⟨h1, h2⟩ x hx hx2
            by_cases e : x = i
            · subst e; exact h2
            · exact h1 x (by omega) hx2
          · intro h
            exact ⟨fun x hx => h x (by omega), h i (by omega) q⟩
        · rw [Nat.testBit_or, Bool.or_eq_true, g4 b hb]
          constructor
          · rintro (⟨x, h1, h2⟩ | h)
            · exact ⟨x, by omega, h2⟩
            · exact ⟨i, by omega, q, h⟩
          · rintro ⟨x, h1, h2, h3⟩
            by_cases e : x = i
            · subst e; exact Or.inr h3
            · exact Or.inl ⟨x, by omega, h2, h3⟩
        · rw [ib_t rfl]
          simp only [nm_u, nI_1, nx_and, nx_or]) (fun j z ⟨a, o, hz, g⟩ => by
      subst hz
      refine ⟨_, ?_, a, o, rfl, g⟩
      show X7_loops_L1_b s (X7_loops_L1 s j) (nI (2 ^ n)) (nI a) (nI o) = _
      unfold X7_loops_L1_b
      rw [X7_all_v hn h8, bd_s, if_pos (by rw [nI_ltp (by omega) (by omega)]; omega)]) (k := N) (by omega) (a := (nI (2 ^ n - 1), nI 0)) ⟨2 ^ n - 1, 0, rfl, by omega, by omega, fun b hb => ⟨fun _ x hx => by omega, fun _ => by rw [tb_all]; exact decide_eq_true hb⟩, fun b hb => ⟨fun h => by simp at h, fun ⟨x, hx, _⟩ => by omega⟩⟩
  subst hz
  exact ⟨a, o, e, h⟩
theorem X2_boundOf_v {N w : Nat} {s : ST} {t : TB} (hN : 300 < N) (hR : RanksOK s t) (hn : s.1 1 = nI (tN t)) (hO : OKT t) (hw : w < 4) : X2_boundOf N s (nI w) = some (nI (bld (fun i => decide (rw4 t w (dif (2 ^ tN t - 1) (2 ^ i)) < rw4 t w (2 ^ tN t - 1))) (tN t))) := by
  have p8 := hO.p8
  have h8 := hO.1.2
  have hp := Nat.two_pow_pos (tN t)
  have hA : 2 ^ tN t - 1 < 2 ^ tN t := by omega
  unfold X2_boundOf
  have h := loop0 (F := fun j i v => X2_boundOf_L1 s (nI w) j (nI i) v) (t := nI (bld (fun i => decide (rw4 t w (dif (2 ^ tN t - 1) (2 ^ i)) < rw4 t w (2 ^ tN t - 1))) (tN t))) (tN t) (fun i => nI (bld (fun i => decide (rw4 t w (dif (2 ^ tN t - 1) (2 ^ i)) < rw4 t w (2 ^ tN t - 1))) i)) (fun j i hi => by
      show X2_boundOf_L1_b s (nI w) (X2_boundOf_L1 s (nI w) j) (nI i) _ = _
      unfold X2_boundOf_L1_b
      have hd : dif (2 ^ tN t - 1) (2 ^ i) < 2 ^ tN t := dif_lt hA
      have a := rw4_le hO w hd
      have b := rw4_le hO w hA
      rw [hR.2.2.2.1, hR.2.2.2.2, if_neg (by rw [nI_lep (by omega) (by omega)]; omega), no_val (by omega), X2_of_v hR hn hO hw hd, bd_s, X2_of_v hR hn hO hw hA, bd_s, bld_s]
      by_cases q : rw4 t w (dif (2 ^ tN t - 1) (2 ^ i)) < rw4 t w (2 ^ tN t - 1)
      · rw [if_neg (by rw [nI_lep (by omega) (by omega)]; omega), if_pos (decide_eq_true q), in_val (by omega)]
        simp only [nm_u, nI_1]
      · rw [if_pos (by rw [nI_lep (by omega) (by omega)]; omega), if_neg (by rw [decide_eq_true_iff]; exact q)]
        simp only [nm_u, nI_1]) (fun j => by
      show X2_boundOf_L1_b s (nI w) (X2_boundOf_L1 s (nI w) j) (nI (tN t)) _ = _
      unfold X2_boundOf_L1_b
      rw [hR.2.2.2.1, if_pos (by rw [nI_lep (by omega) (by omega)]; exact Nat.le_refl _)]) (k := N) (by omega)
  rw [l0]
  rw [show bld (fun i => decide (rw4 t w (dif (2 ^ tN t - 1) (2 ^ i)) < rw4 t w (2 ^ tN t - 1))) 0 = 0 from rfl] at h
  rw [h, bd_s]
theorem isEither_2 (v : Int32) : X6_isEither v = some (bI (inR v 2)) ∧ X7_in v (0 : Int32) (1 : Int32) = some (bI (inR v 2)) := ⟨X6_isEither_v v, X7_inR (n := 2) (by omega) (by omega)⟩
theorem case_loops {k N : Nat} {s u : ST} (h : Inv k s u) (hk : k < 512) (hN : 300 < N) (v1 v2 : Int32) : ∃ r s' u', X6_loops N s v1 v2 = some (r, s') ∧ X7_loops N u v1 v2 = some (r, u') ∧ Inv (k + 1) s' u' := by
  obtain ⟨t, s', hO, hX, hU, e, hR, hX', hSc, hI⟩ := h.sides hk hN
  have p8 := hO.p8
  have hp := Nat.two_pow_pos (tN t)
  unfold X6_loops X7_loops
  rw [X6_isSide_v, X7_isSide_v, bd_s, bd_s]
  refine bc (b := inR v1 4) (fun q => ⟨_, _, _, by rw [ib_f q], by rw [ib_f q], h.mono⟩) fun q => ?_
  rw [ib_t q, ib_t q, (isEither_2 v2).1, (isEither_2 v2).2, bd_s, bd_s]
  refine bc (b := inR v2 2) (fun q => ⟨_, _, _, by rw [ib_f q], by rw [ib_f q], h.mono⟩) fun q2 => ?_
  obtain ⟨w, hw, rfl⟩ := inR_t q (by omega)
  obtain ⟨u', eu, su, lu⟩ := X7_lay_v hN hU hO hw
  have hU' := hU.scM su (by omega)
  have rk := rw4_rk hO w
  obtain ⟨a, o, el, ha, ho, fa, fo⟩ := loops_M hN hU'.1 rk lu
  rw [ib_t q2, ib_t q2, e, bd_s, eu, bd_s, X7_all_v hU'.1 hO.1.2, bd_s, l0, el, bd_s]
  by_cases z : v2 = nI 0
  · rw [if_pos z, if_pos z, X2_shutOf_v hN hR hX'.1 hO hw hp, bd_s, bd_s, nx_not]
    refine ⟨_, _, _, rfl, ?_, hI u' su⟩
    have : cl (tN t) (rw4 t w) 0 = dif (2 ^ tN t - 1) o := bld_eq (dif_lt (by omega)) fun i hi => by
      rw [dif_tb, tb_all, decide_eq_true hi, Bool.true_and]
      have g := (fo i hi).trans (in_base rk hi)
      cases q : o.testBit i with
      | true => rw [decide_eq_false (g.mp q)]; rfl
      | false =>
        rw [decide_eq_true (Classical.byContradiction fun c => by rw [g.mpr c] at q; cases q)]; rfl
    rw [this]
  · rw [if_neg z, if_neg z, X2_boundOf_v hN hR hX'.1 hO hw, bd_s]
    refine ⟨_, _, _, rfl, ?_, hI u' su⟩
    rw [bld_eq ha fun i hi => by
      have g := (fa i hi).trans (every_base rk hi)
      cases q : a.testBit i with
      | true => rw [decide_eq_true (g.mp q)]
      | false => rw [decide_eq_false fun c => by rw [g.mpr c] at q; cases q]]
theorem case_round {k N : Nat} {s u : ST} (h : Inv k s u) (hk : k < 512) (hN : 300 < N) (v1 v2 v3 : Int32) : ∃ r s' u', X6_round N s v1 v2 v3 = some (r, s') ∧ X7_round N u v1 v2 v3 = some (r, u') ∧ Inv (k + 1) s' u' := by
  obtain ⟨t, s', hO, hX, hU, e, hR, hX', hSc, hI⟩ := h.sides hk hN
  have p8 := hO.p8
  have h8 := hO.1.2
  have hp := Nat.two_pow_pos (tN t)
  unfold X6_round X7_round
  rw [X6_isSide_v, X7_isSide_v, bd_s, bd_s]
  refine bc (b := inR v1 4) (fun q => ⟨_, _, _, by rw [ib_f q], by rw [ib_f q], h.mono⟩) fun q => ?_
  rw [ib_t q, ib_t q, (isPost_2 hO hX hU v3).1, (isPost_2 hO hX hU v3).2, bd_s, bd_s]
  refine bc (b := inR v3 (tN t)) (fun q => ⟨_, _, _, by rw [ib_f q], by rw [ib_f q], h.mono⟩) fun q3 => ?_
  rw [ib_t q3, ib_t q3, (isSet_2 hO hX hU v2).1, (isSet_2 hO hX hU v2).2, bd_s, bd_s]
  refine bc (b := inR v2 (2 ^ tN t)) (fun q => ⟨_, _, _, by rw [ib_f q], by rw [ib_f q], h.mono⟩) fun q2 => ?_
  obtain ⟨w, hw, rfl⟩ := inR_t q (by omega)
  obtain ⟨x, hx, rfl⟩ := inR_t q2 (by omega)
  obtain ⟨p, hpn, rfl⟩ := inR_t q3 (by omega)
  obtain ⟨u', eu, su, lu⟩ := X7_lay_v hN hU hO hw
  have hU' := hU.scM su (by omega)
  have rk := rw4_rk hO w
  rw [ib_t q2, ib_t q2, e, bd_s, X2_isBase_v hR hX'.1 hO hw hx, bd_s, eu, bd_s, inb_t (show x < 256 by omega) (by omega), gd_t, nI_clamp (by omega), (lu x hx).2.2]
  refine bc (b := isBs (tN t) (rw4 t w) x) (fun g => ⟨_, _, _, by rw [ib_f g], by rw [ib_f g], hI u' su⟩) fun g => ?_
  rw [ib_t g, ib_t g, X6_has_v (by omega) (by omega), X7_has_v (by omega) (by omega), bd_s, bd_s]
  refine bc (b := x.testBit p) (fun g2 => ?_) fun g2 => ⟨_, _, _, by rw [ib_t g2], by rw [ib_t g2], hI u' su⟩
  rw [ib_f g2, ib_f g2, in_val (by omega), nm_u]
  have hy := or_two_lt hx hpn
  have py := pc_add (show p < 8 by omega) g2
  obtain ⟨b1, b2⟩ := isBs_iff.mp g
  generalize hyy : x ||| 2 ^ p = y at hy py
  have key : ∀ i, i < tN t → y.testBit i = true → isBs (tN t) (rw4 t w) (dif y (2 ^ i)) = isFr (rw4 t w) (dif y (2 ^ i)) := fun i hi hyi => by
    have := pc_rem (show i < 8 by omega) hyi
    unfold isBs
    rw [decide_eq_true (by omega), Bool.and_true]
  have a := loop0 (F := fun j i v => X2_roundOf_L1 s' (nI w) (nI y) j (nI i) v) (t := nI (bld (fun i => y.testBit i && isFr (rw4 t w) (dif y (2 ^ i))) (tN t))) (tN t) (fun i => nI (bld (fun i => y.testBit i && isFr (rw4 t w) (dif y (2 ^ i))) i)) (fun j i hi => by
      show X2_roundOf_L1_b s' (nI w) (nI y) (X2_roundOf_L1 s' (nI w) (nI y) j) (nI i) _ = _
      unfold X2_roundOf_L1_b
      rw [hR.2.2.2.1, if_neg (by rw [nI_lep (by omega) (by omega)]; omega), X6_has_v (by omega) (by omega), bd_s, bld_s]
      cases q : y.testBit i with
      | false =>
        rw [ib_f rfl]
        simp only [nm_u, nI_1, Bool.false_and]
        rfl
      | true =>
        rw [ib_t rfl, no_val (by omega), X2_isBase_v hR hX'.1 hO hw (dif_lt hy), bd_s, key i hi q]
        cases g : isFr (rw4 t w) (dif y (2 ^ i)) with
        | false =>
          rw [ib_f rfl]
          simp only [nm_u, nI_1, Bool.and_false]
          rfl
        | true =>
          rw [ib_t rfl, in_val (by omega)]
          simp only [nm_u, nI_1, Bool.and_true]
          rfl) (fun j => by
      show X2_roundOf_L1_b s' (nI w) (nI y) (X2_roundOf_L1 s' (nI w) (nI y) j) (nI (tN t)) _ = _
      unfold X2_roundOf_L1_b
      rw [hR.2.2.2.1, if_pos (by rw [nI_lep (by omega) (by omega)]; exact Nat.le_refl _)]) (k := N) (by omega)
  have b := loop0 (F := fun j i v => X7_round_L1 u' (nI y) j (nI i) v) (t := nI (bld (fun i => y.testBit i && isFr (rw4 t w) (dif y (2 ^ i))) (tN t))) (tN t) (fun i => nI (bld (fun i => y.testBit i && isFr (rw4 t w) (dif y (2 ^ i))) i)) (fun j i hi => by
      show X7_round_L1_b u' (nI y) (X7_round_L1 u' (nI y) j) (nI i) _ = _
      unfold X7_round_L1_b
      rw [hU'.1, if_neg (by rw [nI_lep (by omega) (by omega)]; omega), X7_has_v (by omega) (by omega), bd_s, bld_s]
      cases q : y.testBit i with
      | false =>
        rw [ib_f rfl, l0, nx_or, Nat.or_zero]
        simp only [nm_u, nI_1, Bool.false_and]
        rfl
      | true =>
        have hd := dif_two_lt q
        rw [ib_t rfl, no_val (by omega), inb_t (show dif y (2 ^ i) < 256 by omega) (by omega), gd_t, nI_clamp (by omega), (lu _ (dif_lt hy)).2.1]
        cases g : isFr (rw4 t w) (dif y (2 ^ i)) with
        | false =>
          rw [ib_f rfl, l0, nx_or, Nat.or_zero]
          simp only [nm_u, nI_1, Bool.and_false]
          rfl
        | true =>
          rw [ib_t rfl, in_val (by omega)]
          simp only [nm_u, nI_1, Bool.and_true]
          rfl) (fun j => by
      show X7_round_L1_b u' (nI y) (X7_round_L1 u' (nI y) j) (nI (tN t)) _ = _
      unfold X7_round_L1_b
      rw [hU'.1, if_pos (by rw [nI_lep (by omega) (by omega)]; exact Nat.le_refl _)]) (k := N) (by omega)
  unfold X2_roundOf
  have z : ∀ q : Nat → Bool, nI (bld q 0) = nI 0 := fun _ => rfl
  rw [z] at a b
  rw [l0, a, bd_s, bd_s, b, bd_s]
  exact ⟨_, _, _, rfl, rfl, hI u' su⟩
theorem swap_ex {n x y p : Nat} {r : Nat → Nat} (h : RK n r) (hx : x < 2 ^ n) (hy : y < 2 ^ n) (bx : isBs n r x = true) (by' : isBs n r y = true) (px : x.testBit p = true) (py : y.testBit p = false) : ∃ i, i < n ∧ (y.testBit i && (!x.testBit i && isBs n r (dif x (2 ^ p) ||| 2 ^ i))) = true := by
  obtain ⟨x1, x2⟩ := isBs_iff.mp bx
  obtain ⟨y1, y2⟩ := isBs_iff.mp by'
  have hd : dif x (2 ^ p) < 2 ^ n := dif_lt hx
  have fd := h.part hx (sub_dif x (2 ^ p)) x1
  have hp := tb_lt hx px
  have pd := pc_rem (Nat.lt_of_lt_of_le hp h.1) px
  have : ∃ i, i < n ∧ y.testBit i = true ∧ r (dif x (2 ^ p) ||| 2 ^ i) ≠ r (dif x (2 ^ p)) := by
    rcases Classical.em (∃ i, i < n ∧ y.testBit i = true ∧ r (dif x (2 ^ p) ||| 2 ^ i) ≠ r (dif x (2 ^ p))) with g | g
    · exact g
    · exfalso
      have c := h.clos (c := y) hd hy fun f hf hyf => Classical.byContradiction fun q => g ⟨f, hf, hyf, q⟩
      have m := h.mono (x := y) (y := dif x (2 ^ p) ||| y) (Nat.or_lt_two_pow hd hy) (sub_or_r _ _)
      omega
  obtain ⟨i, hi, hyi, hne⟩ := this
  have u := h.2.2.1 _ i hd hi
  have nd : (dif x (2 ^ p)).testBit i = false := by
    cases q : (dif x (2 ^ p)).testBit i with
    | false => rfl
    | true => exact absurd (by rw [or_in q]) hne
  have nx : x.testBit i = false := by
    rw [dif_tb, tb_two] at nd
    by_cases e : p = i
    · subst e; rw [hyi] at py; cases py
    · simpa [e] using nd
  have pi := pc_add (Nat.lt_of_lt_of_le hi h.1) nd
  refine ⟨i, hi, ?_⟩
  rw [hyi, nx, isBs_iff.mpr ⟨by omega, by omega⟩]
  rfl
theorem case_swap {k N : Nat} {s u : ST} (h : Inv k s u) (hk : k < 512) (hN : 300 < N) (v1 v2 v3 v4 : Int32) : ∃ r s' u', X6_swap N s v1 v2 v3 v4 = some (r, s') ∧ X7_swap N u v1 v2 v3 v4 = some (r, u') ∧ Inv (k + 1) s' u' := by
  obtain ⟨t, s', hO, hX, hU, e, hR, hX', hSc, hI⟩ := h.sides hk hN
  have p8 := hO.p8
  have h8 := hO.1.2
  have hp := Nat.two_pow_pos (tN t)
  unfold X6_swap X7_swap
  rw [X6_isSide_v, X7_isSide_v, bd_s, bd_s]
  refine bc (b := inR v1 4) (fun q => ⟨_, _, _, by rw [ib_f q], by rw [ib_f q], h.mono⟩) fun q => ?_
  rw [ib_t q, ib_t q, (isPost_2 hO hX hU v4).1, (isPost_2 hO hX hU v4).2, bd_s, bd_s]
  refine bc (b := inR v4 (tN t)) (fun q => ⟨_, _, _, by rw [ib_f q], by rw [ib_f q], h.mono⟩) fun q4 => ?_
  rw [ib_t q4, ib_t q4, (isSet_2 hO hX hU v2).1, (isSet_2 hO hX hU v2).2, bd_s, bd_s]
  refine bc (b := inR v2 (2 ^ tN t)) (fun q => ⟨_, _, _, by rw [ib_f q], by rw [ib_f q], h.mono⟩) fun q2 => ?_
  rw [ib_t q2, ib_t q2, (isSet_2 hO hX hU v3).1, (isSet_2 hO hX hU v3).2, bd_s, bd_s]
  refine bc (b := inR v3 (2 ^ tN t)) (fun q => ⟨_, _, _, by rw [ib_f q], by rw [ib_f q], h.mono⟩) fun q3 => ?_
  obtain ⟨w, hw, rfl⟩ := inR_t q (by omega)
  obtain ⟨x, hx, rfl⟩ := inR_t q2 (by omega)
  obtain ⟨y, hy, rfl⟩ := inR_t q3 (by omega)
  obtain ⟨p, hpn, rfl⟩ := inR_t q4 (by omega)
  obtain ⟨u', eu, su, lu⟩ := X7_lay_v hN hU hO hw
  have hU' := hU.scM su (by omega)
  have rk := rw4_rk hO w
  rw [ib_t q3, ib_t q3, e, bd_s, X2_isBase_v hR hX'.1 hO hw hx, bd_s, eu, bd_s, inb_t (show x < 256 by omega) (by omega), gd_t, nI_clamp (by omega), (lu x hx).2.2]
  refine bc (b := isBs (tN t) (rw4 t w) x) (fun g => ⟨_, _, _, by rw [ib_f g], by rw [ib_f g], hI u' su⟩) fun g => ?_
  rw [ib_t g, ib_t g, X2_isBase_v hR hX'.1 hO hw hy, bd_s, inb_t (show y < 256 by omega) (by omega), gd_t, nI_clamp (by omega), (lu y hy).2.2]
  refine bc (b := isBs (tN t) (rw4 t w) y) (fun g => ⟨_, _, _, by rw [ib_f g], by rw [ib_f g], hI u' su⟩) fun gy => ?_
  rw [ib_t gy, ib_t gy, X6_has_v (by omega) (by omega), X7_has_v (by omega) (by omega), bd_s, bd_s]
  refine bc (b := x.testBit p) (fun g => ⟨_, _, _, by rw [ib_f g], by rw [ib_f g], hI u' su⟩) fun gp => ?_
  rw [ib_t gp, ib_t gp, X6_has_v (by omega) (by omega), X7_has_v (by omega) (by omega), bd_s, bd_s]
  refine bc (b := y.testBit p) (fun gq => ?_) fun g2 => ⟨_, _, _, by rw [ib_t g2], by rw [ib_t g2], hI u' su⟩
  rw [ib_f gq, ib_f gq]
  obtain ⟨i, hi, pi, hm⟩ := first_of (swap_ex rk hx hy g gy gp gq)
  have hm : ∀ j, j < i → (y.testBit j && (!x.testBit j && isBs (tN t) (rw4 t w) (dif x (2 ^ p) ||| 2 ^ j))) = false := fun j hj => by
    have := hm j hj
    simpa using this
  have hdx : dif x (2 ^ p) < 2 ^ tN t := dif_lt hx
  have b := loopFirst (F := fun j i => X7_swap_L1 u' (nI x) (nI y) (nI p) j (nI i)) (fun i => y.testBit i && (!x.testBit i && isBs (tN t) (rw4 t w) (dif x (2 ^ p) ||| 2 ^ i))) (fun i => nI i) pi hm (fun j i' hi' => by
      show X7_swap_L1_b u' (nI x) (nI y) (nI p) (X7_swap_L1 u' (nI x) (nI y) (nI p) j) (nI i') = _
      unfold X7_swap_L1_b
      rw [X7_has_v (by omega) (by omega), bd_s]
      cases c1 : y.testBit i' with
      | false => rw [ib_f rfl, nm_u, nI_1]; rfl
      | true =>
        rw [ib_t rfl, X7_has_v (by omega) (by omega), bd_s]
        cases c2 : x.testBit i' with
        | true => rw [ib_t rfl, nm_u, nI_1]; rfl
        | false =>
          have hl := or_two_lt hdx (show i' < tN t by omega)
          rw [ib_f rfl, no_val (by omega), in_val (by omega), inb_t (show dif x (2 ^ p) ||| 2 ^ i' < 256 by omega) (by omega), gd_t, nI_clamp (by omega), (lu _ hl).2.2]
          cases c3 : isBs (tN t) (rw4 t w) (dif x (2 ^ p) ||| 2 ^ i') with
          | false => rw [ib_f rfl, nm_u, nI_1]; rfl
          | true => rw [ib_t rfl]; rfl) (k := N) (by omega)
  have a := loopSearch (F := fun j i => X2_swapOf_L1 s' (nI w) (nI (dif x (2 ^ p))) (nI (dif y x)) j (nI i)) (tN t) (fun i => y.testBit i && (!x.testBit i && isBs (tN t) (rw4 t w) (dif x (2 ^ p) ||| 2 ^ i))) (fun i => Sum.inl (nI i)) (Sum.inr ()) (fun j i' hi' => by
      show X2_swapOf_L1_b s' (nI w) (nI (dif x (2 ^ p))) (nI (dif y x)) (X2_swapOf_L1 s' (nI w) (nI (dif x (2 ^ p))) (nI (dif y x)) j) (nI i') = _
      unfold X2_swapOf_L1_b
      have hdy : dif y x < 2 ^ tN t := dif_lt hy
      have hl := or_two_lt hdx hi'
      rw [hR.2.2.2.1, if_neg (by rw [nI_lep (by omega) (by omega)]; omega), X6_has_v (by omega) (by omega), bd_s, dif_tb, in_val (by omega), X2_isBase_v hR hX'.1 hO hw hl, bd_s]
      cases c1 : y.testBit i' with
      | false => rw [Bool.false_and, ib_f rfl, nm_u, nI_1]; rfl
      | true =>
        cases c2 : x.testBit i' with
        | true => rw [show (true && !true) = false from rfl, ib_f rfl, nm_u, nI_1]; rfl
        | false =>
          rw [show (true && !false) = true from rfl, ib_t rfl]
          cases c3 : isBs (tN t) (rw4 t w) (dif x (2 ^ p) ||| 2 ^ i') with
          | false => rw [ib_f rfl, nm_u, nI_1]; rfl
          | true => rw [ib_t rfl]; rfl) (fun j => by
      show X2_swapOf_L1_b s' (nI w) (nI (dif x (2 ^ p))) (nI (dif y x)) (X2_swapOf_L1 s' (nI w) (nI (dif x (2 ^ p))) (nI (dif y x)) j) (nI (tN t)) = _
      unfold X2_swapOf_L1_b
      rw [hR.2.2.2.1, if_pos (by rw [nI_lep (by omega) (by omega)]; exact Nat.le_refl _)]) (k := N) (by omega)
  unfold X2_swapOf
  rw [no_val (by omega), nx_not, l0, b, bd_s]
  rcases a with ⟨m, m1, m2, m3, m4⟩ | ⟨m1, -⟩
  · have : m = i := by
      rcases Nat.lt_trichotomy m i with c | c | c
      · rw [hm m c] at m2; cases m2
      · exact c
      · rw [m3 i c] at pi; cases pi
    subst this
    rw [m4, bd_s]
    exact ⟨_, _, _, rfl, rfl, hI u' su⟩
  · rw [m1 i hi] at pi
    cases pi
