/-! PURE 14: less, alike, the heaviest base, films -/
theorem case_less {k N : Nat} {s u : ST} (h : Inv k s u) (hk : k < 512) (hN : 300 < N) (v1 v2 v3 v4 : Int32) : ∃ r s' u', X6_less N s v1 v2 v3 v4 = some (r, s') ∧ X7_less N u v1 v2 v3 v4 = some (r, u') ∧ Inv (k + 1) s' u' := by
  obtain ⟨t, s', hO, hX, hU, e, hR, hX', hSc, hI⟩ := h.sides hk hN
  have p8 := hO.p8
  unfold X6_less X7_less
  rw [X6_isSide_v, X7_isSide_v, bd_s, bd_s]
  refine bc (b := inR v1 4) (fun q => ⟨_, _, _, by rw [ib_f q], by rw [ib_f q], h.mono⟩) fun q => ?_
  rw [ib_t q, ib_t q, (isSet_2 hO hX hU v2).1, (isSet_2 hO hX hU v2).2, bd_s, bd_s]
  refine bc (b := inR v2 (2 ^ tN t)) (fun q => ⟨_, _, _, by rw [ib_f q], by rw [ib_f q], h.mono⟩) fun q2 => ?_
  rw [ib_t q2, ib_t q2, (isSet_2 hO hX hU v3).1, (isSet_2 hO hX hU v3).2, bd_s, bd_s]
  refine bc (b := inR v3 (2 ^ tN t)) (fun q => ⟨_, _, _, by rw [ib_f q], by rw [ib_f q], h.mono⟩) fun q3 => ?_
  rw [ib_t q3, ib_t q3, (isSet_2 hO hX hU v4).1, (isSet_2 hO hX hU v4).2, bd_s, bd_s]
  refine bc (b := inR v4 (2 ^ tN t)) (fun q => ⟨_, _, _, by rw [ib_f q], by rw [ib_f q], h.mono⟩) fun q4 => ?_
  obtain ⟨w, hw, rfl⟩ := inR_t q (by omega)
  obtain ⟨x, hx, rfl⟩ := inR_t q2 (by omega)
  obtain ⟨y, hy, rfl⟩ := inR_t q3 (by omega)
  obtain ⟨z, hz, rfl⟩ := inR_t q4 (by omega)
  obtain ⟨u', eu, su, lu⟩ := X7_lay_v hN hU hO hw
  have a1 := Nat.and_le_left (n := x) (m := y)
  have a2 := Nat.and_le_left (n := x) (m := z)
  have a3 := Nat.and_le_left (n := y) (m := z)
  have a4 := Nat.and_le_left (n := z) (m := x ||| y)
  rw [ib_t q4, ib_t q4, nx_and, nx_and, nx_and, nx_or, nx_or, nx_and]
  have e0 : ∀ a : Nat, a < 2 ^ 31 → (nI a = 0 ↔ a = 0) := fun a ha => by rw [nI_eq0 ha]
  by_cases c1 : x &&& y = 0
  · rw [if_pos ((e0 _ (by omega)).mpr c1), if_pos ((e0 _ (by omega)).mpr c1)]
    by_cases c2 : x &&& z = 0
    · rw [if_pos ((e0 _ (by omega)).mpr c2)]
      by_cases c3 : y &&& z = 0
      · have c4 : z &&& (x ||| y) = 0 := and_0.mpr fun i hi => by
          rw [Nat.testBit_or]
          have d1 : x.testBit i = false := by
            cases q : x.testBit i with
            | false => rfl
            | true => rw [and_0.mp c2 i q] at hi; cases hi
          have d2 : y.testBit i = false := by
            cases q : y.testBit i with
            | false => rfl
            | true => rw [and_0.mp c3 i q] at hi; cases hi
          rw [d1, d2]; rfl
        have hzy : z ||| y < 2 ^ tN t := Nat.or_lt_two_pow hz hy
        rw [if_pos ((e0 _ (by omega)).mpr c3), if_pos ((e0 _ (by omega)).mpr c4), e, bd_s, X2_of_v hR hX'.1 hO hw hzy, bd_s, X2_of_v hR hX'.1 hO hw hy, bd_s, eu, bd_s, inb_t (show z ||| y < 256 by omega) (by omega), gd_t, inb_t (show y < 256 by omega) (by omega), gd_t, nI_clamp (by omega), nI_clamp (by omega), (lu _ hzy).1, (lu _ hy).1]
        exact ⟨_, _, _, rfl, rfl, hI u' su⟩
      · have c4 : ¬ z &&& (x ||| y) = 0 := fun q => c3 (and_0.mpr fun i hi => by
          cases d : z.testBit i with
          | false => rfl
          | true =>
            have := and_0.mp q i d
            rw [Nat.testBit_or, hi, Bool.or_true] at this
            cases this)
        rw [if_neg (fun q => c3 ((e0 _ (by omega)).mp q)), if_neg (fun q => c4 ((e0 _ (by omega)).mp q))]
        exact ⟨_, _, _, rfl, rfl, h.mono⟩
    · have c4 : ¬ z &&& (x ||| y) = 0 := fun q => c2 (and_0.mpr fun i hi => by
        cases d : z.testBit i with
        | false => rfl
        | true =>
          have := and_0.mp q i d
          rw [Nat.testBit_or, hi] at this
          cases this)
      rw [if_neg (fun q => c2 ((e0 _ (by omega)).mp q)), if_neg (fun q => c4 ((e0 _ (by omega)).mp q))]
      exact ⟨_, _, _, rfl, rfl, h.mono⟩
  · rw [if_neg (fun q => c1 ((e0 _ (by omega)).mp q)), if_neg (fun q => c1 ((e0 _ (by omega)).mp q))]
    exact ⟨_, _, _, rfl, rfl, h.mono⟩
theorem loopSearch_eq {T T' : Type} {F : Nat → Nat → Option T} {G : Nat → Nat → Option T'} (N : Nat) (p : Nat → Bool) (hit : Nat → T) (t : T) (hit' : Nat → T') (t' : T') (hs : ∀ k i, i < N → F (k + 1) i = if p i = true then some (hit i) else F k (i + 1)) (hx : ∀ k, F (k + 1) N = some t) (hs' : ∀ k i, i < N → G (k + 1) i = if p i = true then some (hit' i) else G k (i + 1)) (hx' : ∀ k, G (k + 1) N = some t') {k : Nat} (hk : N < k) : (∃ i, i < N ∧ F k 0 = some (hit i) ∧ G k 0 = some (hit' i)) ∨ (F k 0 = some t ∧ G k 0 = some t') := by
  rcases loopSearch N p hit t hs hx hk with ⟨i, h1, h2, h3, h4⟩ | ⟨h1, h2⟩
  · rcases loopSearch N p hit' t' hs' hx' hk with ⟨j, g1, g2, g3, g4⟩ | ⟨g1, g2⟩
    · have : i = j := by
        rcases Nat.lt_trichotomy i j with c | c | c
        · rw [g3 i c] at h2; cases h2
        · exact c
        · rw [h3 j c] at g2; cases g2
      subst this
      exact Or.inl ⟨i, h1, h4, g4⟩
    · rw [g1 i h1] at h2; cases h2
  · rcases loopSearch N p hit' t' hs' hx' hk with ⟨j, g1, g2, g3, g4⟩ | ⟨g1, g2⟩
    · rw [h1 j g1] at g2; cases g2
    · exact Or.inr ⟨h2, g2⟩
theorem case_alike {k N : Nat} {s u : ST} (h : Inv k s u) (hk : k < 512) (hN : 300 < N) (v1 v2 : Int32) : ∃ r s' u', X6_alike N s v1 v2 = some (r, s') ∧ X7_alike N u v1 v2 = some (r, u') ∧ Inv (k + 1) s' u' := by
  obtain ⟨t, s', hO, hX, hU, e, hR, hX', hSc, hI⟩ := h.sides hk hN
  have p8 := hO.p8
  have h8 := hO.1.2
  have hp := Nat.two_pow_pos (tN t)
  unfold X6_alike X7_alike
  rw [X6_isSide_v, X7_isSide_v, bd_s, bd_s]
  refine bc (b := inR v1 4) (fun q => ⟨_, _, _, by rw [ib_f q], by rw [ib_f q], h.mono⟩) fun q => ?_
  rw [ib_t q, ib_t q, X6_isSide_v, X7_isSide_v, bd_s, bd_s]
  refine bc (b := inR v2 4) (fun q => ⟨_, _, _, by rw [ib_f q], by rw [ib_f q], h.mono⟩) fun q2 => ?_
  obtain ⟨w, hw, rfl⟩ := inR_t q (by omega)
  obtain ⟨w2, hw2, rfl⟩ := inR_t q2 (by omega)
  obtain ⟨a, ea, sa, la⟩ := X7_lay_w hN hU hO hw
  have hA := hU.scM sa.m (by omega)
  have cp := loop0 (F := fun j i (z : ST) => X7_alike_L1 j (nI i) z) (t := sA a 11 (fl (a.2.1 11) (fun x => nI (rw4 t w x)) (2 ^ tN t))) (2 ^ tN t) (fun i => sA a 11 (fl (a.2.1 11) (fun x => nI (rw4 t w x)) i)) (fun j i hi => by
      show X7_alike_L1_b (X7_alike_L1 j) (nI i) _ = _
      unfold X7_alike_L1_b
      rw [X7_all_v (show (sA a 11 _).1 0 = nI (tN t) from hA.1) h8, bd_s, if_neg (by rw [nI_ltp (by omega) (by omega)]; omega), inb_t (show i < 256 by omega) (by omega), gd_t, gd_t]
      simp only [nm_u, nI_clamp (show i < 2 ^ 31 by omega), nI_1, st_AA, if_true, sA_sA]
      rw [if_neg (show ¬ 10 = 11 by omega), (la i hi).1, fl_u (a.2.1 11) (fun x => nI (rw4 t w x)) i]) (fun j => by
      show X7_alike_L1_b (X7_alike_L1 j) (nI (2 ^ tN t)) _ = _
      unfold X7_alike_L1_b
      rw [X7_all_v (show (sA a 11 _).1 0 = nI (tN t) from hA.1) h8, bd_s, if_pos (by rw [nI_ltp (by omega) (by omega)]; omega)]) (k := N) (by omega)
  rw [fl_0, sA_id] at cp
  have s11 : ScM a (sA a 11 (fl (a.2.1 11) (fun x => nI (rw4 t w x)) (2 ^ tN t))) := ScM.sA (by omega) (by omega)
  have hB := hA.scM s11 (by omega)
  obtain ⟨b, eb, sb, lb⟩ := X7_lay_w hN hB hO hw2
  have hb11 : ∀ x, x < 2 ^ tN t → b.2.1 11 x = nI (rw4 t w x) := fun x hx => by
    rw [sb.2 11 (by omega), st_AA, if_pos rfl, fl_in hx]
  have hC := hB.scM sb.m (by omega)
  have fin := hI b ((sa.m.tr s11).tr sb.m)
  rw [ib_t q2, ib_t q2, e, bd_s, X4_all_v hX'.1 h8, bd_s, ea, bd_s, l0, cp, bd_s, eb, bd_s]
  have ss := loopSearch_eq (F := fun j i => X6_alike_L1 s' (nI (2 ^ tN t - 1)) (nI w) (nI w2) j (nI i)) (G := fun j i => X7_alike_L2 b j (nI i)) (2 ^ tN t) (fun x => decide (rw4 t w x ≠ rw4 t w2 x)) (fun i => Sum.inl (nI i, s')) (Sum.inr ()) (fun i => Sum.inl (nI i, b)) (Sum.inr ()) (fun j i hi => by
      show X6_alike_L1_b s' (nI (2 ^ tN t - 1)) (nI w) (nI w2) (X6_alike_L1 s' (nI (2 ^ tN t - 1)) (nI w) (nI w2) j) (nI i) = _
      unfold X6_alike_L1_b
      have r1 := rw4_le hO w hi
      have r2 := rw4_le hO w2 hi
      rw [if_neg (by rw [nI_ltp (by omega) (by omega)]; omega), X2_of_v hR hX'.1 hO hw hi, bd_s, X2_of_v hR hX'.1 hO hw2 hi, bd_s]
      by_cases c : rw4 t w i = rw4 t w2 i
      · rw [if_pos (by rw [c]), decide_eq_false (by simpa using c), nm_u, nI_1]; rfl
      · rw [if_neg (by rw [nI_inj (by omega) (by omega)]; exact c), decide_eq_true (by simpa using c)]; rfl) (fun j => by
      show X6_alike_L1_b s' (nI (2 ^ tN t - 1)) (nI w) (nI w2) (X6_alike_L1 s' (nI (2 ^ tN t - 1)) (nI w) (nI w2) j) (nI (2 ^ tN t)) = _
      unfold X6_alike_L1_b
      rw [if_pos (by rw [nI_ltp (by omega) (by omega)]; omega)]) (fun j i hi => by
      show X7_alike_L2_b b (X7_alike_L2 b j) (nI i) = _
      unfold X7_alike_L2_b
      have r1 := rw4_le hO w hi
      have r2 := rw4_le hO w2 hi
      rw [X7_all_v hC.1 h8, bd_s, if_neg (by rw [nI_ltp (by omega) (by omega)]; omega), inb_t (show i < 256 by omega) (by omega), gd_t, gd_t, nI_clamp (by omega), (lb i hi).1, hb11 i hi]
      by_cases c : rw4 t w i = rw4 t w2 i
      · rw [if_pos (by rw [c]), decide_eq_false (by simpa using c), nm_u, nI_1]; rfl
      · rw [if_neg (by rw [nI_inj (by omega) (by omega)]; exact fun z => c z.symm), decide_eq_true (by simpa using c)]; rfl) (fun j => by
      show X7_alike_L2_b b (X7_alike_L2 b j) (nI (2 ^ tN t)) = _
      unfold X7_alike_L2_b
      rw [X7_all_v hC.1 h8, bd_s, if_pos (by rw [nI_ltp (by omega) (by omega)]; omega)]) (k := N) (by omega)
  rcases ss with ⟨i, -, g1, g2⟩ | ⟨g1, g2⟩
  · rw [g1, g2, bd_s, bd_s]
    exact ⟨_, _, _, rfl, rfl, fin⟩
  · rw [g1, g2, bd_s, bd_s]
    exact ⟨_, _, _, rfl, rfl, fin⟩
/-- the weight of a set -/
def wt (W : Nat → Nat) (x : Nat) : Nat → Nat
  | 0 => 0
  | i + 1 => wt W x i + (if x.testBit i = true then W i else 0)
theorem wt_s (W : Nat → Nat) (x i : Nat) : wt W x (i + 1) = wt W x i + (if x.testBit i = true then W i else 0) := rfl
theorem wt_le {W : Nat → Nat} {x : Nat} (h : ∀ i, i < 8 → W i ≤ 99) : ∀ {n : Nat}, n ≤ 8 → wt W x n ≤ 99 * n
  | 0, _ => Nat.le_refl _
  | n + 1, hn => by
    have ih := wt_le (x := x) h (n := n) (by omega)
    have := h n (by omega)
    unfold wt
    split <;> omega
theorem X4_weightOf_v {N x : Nat} {s : ST} {t : TB} (hN : 300 < N) (hX : XT s 1 0 t) (hO : OKT t) (hx : x < 256) : X4_weightOf N s (nI x) = some (nI (wt (tW t) x (tN t))) := by
  have h8 := hO.1.2
  have h := loop0 (F := fun j i v => X4_weightOf_L1 s (nI x) j (nI i) v) (t := nI (wt (tW t) x (tN t))) (tN t) (fun i => nI (wt (tW t) x i)) (fun j i hi => by
      show X4_weightOf_L1_b s (nI x) (X4_weightOf_L1 s (nI x) j) (nI i) _ = _
      unfold X4_weightOf_L1_b
      rw [hX.1, if_neg (by rw [nI_lep (by omega) (by omega)]; omega), X6_has_v (by omega) (by omega), bd_s]
      rw [wt_s]
      by_cases q : x.testBit i = true
      · rw [ib_t q, if_pos q, inb_t (show i < 8 by omega) (by omega), gd_t, nI_clamp (by omega), hX.2.2.2.2.1 i (by omega), nI_add]
        simp only [nm_u, nI_1]
      · rw [ib_f (by simpa using q), if_neg q, Nat.add_zero (wt (tW t) x i)]
        simp only [nm_u, nI_1]) (fun j => by
      show X4_weightOf_L1_b s (nI x) (X4_weightOf_L1 s (nI x) j) (nI (tN t)) _ = _
      unfold X4_weightOf_L1_b
      rw [hX.1, if_pos (by rw [nI_lep (by omega) (by omega)]; exact Nat.le_refl _)]) (k := N) (by omega)
  unfold X4_weightOf
  rw [show nI (wt (tW t) x 0) = nI 0 from rfl] at h
  rw [l0, h, bd_s]
theorem X7_weightOf_v {N x : Nat} {s : ST} {t : TB} (hN : 300 < N) (hX : XT s 0 0 t) (hO : OKT t) (hx : x < 256) : X7_weightOf N s (nI x) = some (nI (wt (tW t) x (tN t))) := by
  have h8 := hO.1.2
  have h := loop0 (F := fun j i v => X7_weightOf_L1 s (nI x) j (nI i) v) (t := nI (wt (tW t) x (tN t))) (tN t) (fun i => nI (wt (tW t) x i)) (fun j i hi => by
      show X7_weightOf_L1_b s (nI x) (X7_weightOf_L1 s (nI x) j) (nI i) _ = _
      unfold X7_weightOf_L1_b
      rw [hX.1, if_neg (by rw [nI_lep (by omega) (by omega)]; omega), X7_has_v (by omega) (by omega), bd_s]
      rw [wt_s]
      by_cases q : x.testBit i = true
      · rw [ib_t q, if_pos q, inb_t (show i < 8 by omega) (by omega), gd_t, nI_clamp (by omega), hX.2.2.2.2.1 i (by omega), nI_add]
        simp only [nm_u, nI_1]
      · rw [ib_f (by simpa using q), if_neg q, l0, nI_add]
        simp only [nm_u, nI_1]) (fun j => by
      show X7_weightOf_L1_b s (nI x) (X7_weightOf_L1 s (nI x) j) (nI (tN t)) _ = _
      unfold X7_weightOf_L1_b
      rw [hX.1, if_pos (by rw [nI_lep (by omega) (by omega)]; exact Nat.le_refl _)]) (k := N) (by omega)
  unfold X7_weightOf
  rw [show nI (wt (tW t) x 0) = nI 0 from rfl] at h
  rw [l0, h, bd_s]
/-- the first heaviest base -/
def hvy (P : Nat → Bool) (W : Nat → Nat) : Nat → Option Nat
  | 0 => none
  | i + 1 => if P i = true then (match hvy P W i with | none => some i | some b => if W i ≤ W b then some b else some i) else hvy P W i
theorem hvy_lt {P : Nat → Bool} {W : Nat → Nat} : ∀ {i b : Nat}, hvy P W i = some b → b < i
  | 0, b, h => by cases h
  | i + 1, b, h => by
    unfold hvy at h
    by_cases q : P i = true
    · rw [if_pos q] at h
      cases g : hvy P W i with
      | none => rw [g] at h; cases h; omega
      | some c =>
        rw [g] at h
        have := hvy_lt g
        dsimp only at h
        split at h <;> cases h <;> omega
    · rw [if_neg q] at h
      have := hvy_lt h
      omega
theorem hvy_some {P : Nat → Bool} {W : Nat → Nat} {b : Nat} (hb : P b = true) : ∀ {i : Nat}, b < i → ∃ c, hvy P W i = some c
  | 0, h => by omega
  | i + 1, h => by
    unfold hvy
    by_cases q : P i = true
    · rw [if_pos q]
      cases g : hvy P W i with
      | none => exact ⟨_, rfl⟩
      | some c => dsimp only; split <;> exact ⟨_, rfl⟩
    · rw [if_neg q]
      have : b ≠ i := fun e => by subst e; exact q hb
      exact hvy_some hb (by omega)
theorem case_heaviest {k N : Nat} {s u : ST} (h : Inv k s u) (hk : k < 512) (hN : 300 < N) (v1 v2 : Int32) : ∃ r s' u', X6_heaviest N s v1 v2 = some (r, s') ∧ X7_heaviest N u v1 v2 = some (r, u') ∧ Inv (k + 1) s' u' := by
  obtain ⟨t, s', hO, hX, hU, e, hR, hX', hSc, hI⟩ := h.sides hk hN
  have p8 := hO.p8
  have h8 := hO.1.2
  have hp := Nat.two_pow_pos (tN t)
  unfold X6_heaviest X7_heaviest
  rw [X6_isSide_v, X7_isSide_v, bd_s, bd_s]
  refine bc (b := inR v1 4) (fun q => ⟨_, _, _, by rw [ib_f q], by rw [ib_f q], h.mono⟩) fun q => ?_
  rw [ib_t q, ib_t q, (isEither_2 v2).1, (isEither_2 v2).2, bd_s, bd_s]
  refine bc (b := inR v2 2) (fun q => ⟨_, _, _, by rw [ib_f q], by rw [ib_f q], h.mono⟩) fun q2 => ?_
  obtain ⟨w, hw, rfl⟩ := inR_t q (by omega)
  obtain ⟨u', eu, su, lu⟩ := X7_lay_v hN hU hO hw
  have hU' := hU.scM su (by omega)
  have rk := rw4_rk hO w
  have wl : ∀ x, wt (tW t) x (tN t) ≤ 792 := fun x => Nat.le_trans (wt_le hO.2.2.2.2.1 h8) (by omega)
  let H := hvy (isBs (tN t) (rw4 t w)) (fun x => wt (tW t) x (tN t))
  have a := loop0 (F := fun j i (z : Int32 × Int32) => X6_heaviest_L1 N s' (nI (2 ^ tN t - 1)) (nI w) j (nI i) z.1 z.2) (t := match H (2 ^ tN t) with | none => ((-1 : Int32), nI 0) | some b => (nI (wt (tW t) b (tN t)), nI b)) (2 ^ tN t) (fun i => match H i with | none => ((-1 : Int32), nI 0) | some b => (nI (wt (tW t) b (tN t)), nI b)) (fun j i hi => by
      show X6_heaviest_L1_b N s' (nI (2 ^ tN t - 1)) (nI w) (X6_heaviest_L1 N s' (nI (2 ^ tN t - 1)) (nI w) j) (nI i) _ _ = _
      unfold X6_heaviest_L1_b
      have w1 := wl i
      rw [if_neg (by rw [nI_ltp (by omega) (by omega)]; omega), X2_isBase_v hR hX'.1 hO hw hi, bd_s]
      rw [show H (i + 1) = if isBs (tN t) (rw4 t w) i = true then (match H i with | none => some i | some b => if wt (tW t) i (tN t) ≤ wt (tW t) b (tN t) then some b else some i) else H i from rfl]
      cases q : isBs (tN t) (rw4 t w) i with
      | false => rw [ib_f rfl, if_neg (by decide), nm_u, nI_1]
      | true =>
        rw [ib_t rfl, if_pos rfl, X4_weightOf_v hN hX' hO (by omega), bd_s]
        cases g : H i with
        | none =>
          rw [if_neg (by rw [Int32.le_iff_toInt_le, nI_toInt (by omega), show (-1 : Int32).toInt = -1 from by decide]; omega), bd_s]
          simp only [nm_u, nI_1]
        | some b =>
          have w2 := wl b
          by_cases c : wt (tW t) i (tN t) ≤ wt (tW t) b (tN t)
          · rw [if_pos (by rw [nI_lep (by omega) (by omega)]; exact c)]
            simp only [nm_u, nI_1, if_pos c]
          · rw [if_neg (by rw [nI_lep (by omega) (by omega)]; exact c), bd_s]
            simp only [nm_u, nI_1, if_neg c]) (fun j => by
      show X6_heaviest_L1_b N s' (nI (2 ^ tN t - 1)) (nI w) (X6_heaviest_L1 N s' (nI (2 ^ tN t - 1)) (nI w) j) (nI (2 ^ tN t)) _ _ = _
      unfold X6_heaviest_L1_b
      rw [if_pos (by rw [nI_ltp (by omega) (by omega)]; omega)]) (k := N) (by omega)
  have b := loop0 (F := fun j i (z : Int32) => X7_heaviest_L1 N u' j (nI i) z) (t := match H (2 ^ tN t) with | none => (-1 : Int32) | some b => nI b) (2 ^ tN t) (fun i => match H i with | none => (-1 : Int32) | some b => nI b) (fun j i hi => by
      show X7_heaviest_L1_b N u' (X7_heaviest_L1 N u' j) (nI i) _ = _
      unfold X7_heaviest_L1_b
      have w1 := wl i
      rw [X7_all_v hU'.1 h8, bd_s, if_neg (by rw [nI_ltp (by omega) (by omega)]; omega), inb_t (show i < 256 by omega) (by omega), gd_t, nI_clamp (by omega), (lu i hi).2.2]
      rw [show H (i + 1) = if isBs (tN t) (rw4 t w) i = true then (match H i with | none => some i | some b => if wt (tW t) i (tN t) ≤ wt (tW t) b (tN t) then some b else some i) else H i from rfl]
      cases q : isBs (tN t) (rw4 t w) i with
      | false => rw [ib_f rfl, if_neg (by decide), nm_u, nI_1]
      | true =>
        rw [ib_t rfl, if_pos rfl]
        cases g : H i with
        | none =>
          rw [if_pos (by decide)]
          simp only [nm_u, nI_1]
        | some b =>
          have w2 := wl b
          have hb := hvy_lt g
          dsimp only
          rw [if_neg (by rw [l0, nI_ltp (by omega) (by omega)]; omega), X7_weightOf_v hN hU' hO (by omega), bd_s, X7_weightOf_v hN hU' hO (by omega), bd_s]
          by_cases c : wt (tW t) i (tN t) ≤ wt (tW t) b (tN t)
          · rw [if_pos (by rw [nI_lep (by omega) (by omega)]; exact c)]
            simp only [nm_u, nI_1, if_pos c]
          · rw [if_neg (by rw [nI_lep (by omega) (by omega)]; exact c)]
            simp only [nm_u, nI_1, if_neg c]) (fun j => by
      show X7_heaviest_L1_b N u' (X7_heaviest_L1 N u' j) (nI (2 ^ tN t)) _ = _
      unfold X7_heaviest_L1_b
      rw [X7_all_v hU'.1 h8, bd_s, if_pos (by rw [nI_ltp (by omega) (by omega)]; omega)]) (k := N) (by omega)
  obtain ⟨b0, b1, b2, -, -⟩ := rk.base (x := 0) (z := 2 ^ tN t - 1) (by omega) (sub_0 _) (by rw [rk.2.1, pc_0]) rfl
  obtain ⟨c, hc⟩ := hvy_some (W := fun x => wt (tW t) x (tN t)) b2 b1
  have hcl := hvy_lt hc
  rw [show H (2 ^ tN t) = some c from hc] at a b
  rw [show H 0 = none from rfl] at a b
  rw [ib_t q2, ib_t q2, e, bd_s, X4_all_v hX'.1 h8, bd_s, l0, a, bd_s, eu, bd_s, b, bd_s]
  by_cases z : v2 = nI 0
  · rw [if_pos z, if_pos z]
    exact ⟨_, _, _, rfl, rfl, hI u' su⟩
  · rw [if_neg z, if_neg z]
    dsimp only
    rw [X7_weightOf_v hN hU' hO (by omega), bd_s]
    exact ⟨_, _, _, rfl, rfl, hI u' su⟩
