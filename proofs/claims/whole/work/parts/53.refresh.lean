/-! PURE 8: the class's ranks made anew -/
def tG (t : TB) : Nat → Nat := tfam (tR t) (tT t)
def RanksOK (s : ST) (t : TB) : Prop := (∀ x, x < 2 ^ tN t → s.2.1 6 x = nI (gr (tG t) (tN t) x)) ∧ (∀ x, x < 2 ^ tN t → s.2.1 7 x = nI (gr (tF t) (tK t) x)) ∧ MB10 s (tF t) (tK t) ∧ s.1 20 = nI (tN t) ∧ s.1 21 = nI (2 ^ tN t - 1)
/-- the class's scratch for ranks: scalars 9, 20, 21, arrays 6, 7, the long arrays -/
def ScR (s s' : ST) : Prop := (∀ c, c ≠ 9 ∧ c < 20 → s'.1 c = s.1 c) ∧ ∀ c, c ≠ 6 → c ≠ 7 → s'.2.1 c = s.2.1 c
theorem ScR.rf (s : ST) : ScR s s := ⟨fun _ _ => rfl, fun _ _ _ => rfl⟩
theorem ScR.tr {a b c : ST} (h : ScR a b) (g : ScR b c) : ScR a c := ⟨fun j h1 => (g.1 j h1).trans (h.1 j h1), fun j h1 h2 => (g.2 j h1 h2).trans (h.2 j h1 h2)⟩
theorem XT.scR {s s' : ST} {t : TB} {p a : Nat} (h : XT s p a t) (q : ScR s s') (hp : p ≤ 6) (ha : a ≤ 3) : XT s' p a t := by
  obtain ⟨h1, h2, h3, h4, h5, h6⟩ := h
  refine ⟨?_, ?_, ?_, ?_, ?_, ?_⟩
  · rw [q.1 p (by omega)]; exact h1
  · rw [q.1 _ (by omega)]; exact h2
  · rw [q.1 _ (by omega)]; exact h3
  · rw [q.2 a (by omega) (by omega)]; exact h4
  · rw [q.2 _ (by omega) (by omega)]; exact h5
  · rw [q.2 _ (by omega) (by omega)]; exact h6
theorem refresh_L1 {k : Nat} {s : ST} {t : TB} (hk : 300 < k) (hX : XT s 1 0 t) (hO : OKT t) (hM : MB13 s (tG t) 0) : ∃ s', X2_refresh_L1 k k (nI 0) s = some s' ∧ (∃ a b, s' = mB13 s a b) ∧ MB13 s' (tG t) (tN t) := by
  obtain ⟨⟨g1, g2⟩, g3, g4, g5, g6, g7⟩ := hO
  obtain ⟨h1, h2, h3, h4, h5, h6⟩ := hX
  have p8 := pow8 g2
  obtain ⟨s', e, q⟩ := loopInv0 (F := fun j i (z : ST) => X2_refresh_L1 k j (nI i) z) (Q := fun z => (∃ a b, z = mB13 s a b) ∧ MB13 z (tG t) (tN t)) (fun i z => (∃ a b, z = mB13 s a b) ∧ MB13 z (tG t) i) (tN t) (fun j i z hi ⟨⟨a, b, hz⟩, hm⟩ => by
      subst hz
      show ∃ z', _ ∧ X2_refresh_L1_b k (X2_refresh_L1 k j) (nI i) _ = _
      unfold X2_refresh_L1_b
      rw [mB13_1, h1, h2, if_neg (by rw [nI_lep (by omega) (by omega)]; omega), X6_has_v (by omega) (by omega), bd_s]
      by_cases q : (tT t).testBit i = true
      · refine ⟨_, ⟨⟨a, b, rfl⟩, fun x hx => ?_⟩, by rw [ib_t q]; simp only [nm_u, nI_1]⟩
        rw [mt_no (show tG t i = 0 from if_pos q)]
        exact hm x hx
      · have hz : tG t i = tR t i ||| 2 ^ i := if_neg q
        have hr := g5 i (by omega)
        have hlt := or_two_lt hr.1 hi
        obtain ⟨a', b', e, m⟩ := X1_join_13_v (n := k) (s := mB13 s a b) (z := tR t i ||| 2 ^ i) (by omega) hm hz.symm (by omega)
        refine ⟨_, ⟨⟨a', b', ?_⟩, m⟩, ?_⟩
        · rw [mB13_mB]
        · rw [ib_f (by simpa using q), inb_t (show i < 8 by omega) (by omega), gd_t, mB13_2]
          rw [nI_clamp (by omega), h4 i (by omega), in_val (by omega), e, bd_s, nm_u, nI_1]) (fun j z ⟨⟨a, b, hz⟩, hm⟩ => by
      subst hz
      refine ⟨_, ?_, ⟨a, b, rfl⟩, hm⟩
      show X2_refresh_L1_b k (X2_refresh_L1 k j) (nI (tN t)) _ = _
      unfold X2_refresh_L1_b
      rw [mB13_1, h1, if_pos (by rw [nI_lep (by omega) (by omega)]; exact Nat.le_refl _)]) (k := k) (by omega) (a := s) ⟨⟨_, _, (mB13_id s).symm⟩, hM⟩
  exact ⟨s', e, q⟩
theorem refresh_L2 {k : Nat} {s : ST} {t : TB} (hk : 300 < k) (hX : XT s 1 0 t) (hO : OKT t) (hM : MB10 s (tF t) 0) : ∃ s', X2_refresh_L2 k k (nI 0) s = some s' ∧ (∃ a b, s' = mB10 s a b) ∧ MB10 s' (tF t) (tK t) := by
  obtain ⟨⟨g1, g2⟩, g3, g4, g5, g6, g7⟩ := hO
  obtain ⟨h1, h2, h3, h4, h5, h6⟩ := hX
  have p8 := pow8 g2
  obtain ⟨s', e, q⟩ := loopInv0 (F := fun j i (z : ST) => X2_refresh_L2 k j (nI i) z) (Q := fun z => (∃ a b, z = mB10 s a b) ∧ MB10 z (tF t) (tK t)) (fun i z => (∃ a b, z = mB10 s a b) ∧ MB10 z (tF t) i) (tK t) (fun j i z hi ⟨⟨a, b, hz⟩, hm⟩ => by
      subst hz
      show ∃ z', _ ∧ X2_refresh_L2_b k (X2_refresh_L2 k j) (nI i) _ = _
      unfold X2_refresh_L2_b
      have hr := g7 i hi
      obtain ⟨a', b', e, m⟩ := X1_join_10_v (n := k) (s := mB10 s a b) (z := tF t i) (by omega) hm rfl (by omega)
      refine ⟨_, ⟨⟨a', b', ?_⟩, m⟩, ?_⟩
      · rw [mB10_mB]
      · rw [mB10_1, h3, if_neg (by rw [nI_lep (by omega) (by omega)]; omega), inb_t (show i < 8 by omega) (by omega), gd_t, mB10_2]
        rw [nI_clamp (by omega), h6 i (by omega), e, bd_s, nm_u, nI_1]) (fun j z ⟨⟨a, b, hz⟩, hm⟩ => by
      subst hz
      refine ⟨_, ?_, ⟨a, b, rfl⟩, hm⟩
      show X2_refresh_L2_b k (X2_refresh_L2 k j) (nI (tK t)) _ = _
      unfold X2_refresh_L2_b
      rw [mB10_1, h3, if_pos (by rw [nI_lep (by omega) (by omega)]; exact Nat.le_refl _)]) (k := k) (by omega) (a := s) ⟨⟨_, _, (mB10_id s).symm⟩, hM⟩
  exact ⟨s', e, q⟩
theorem X2_refresh_v {k : Nat} {s : ST} {t : TB} (hk : 300 < k) (hX : XT s 1 0 t) (hO : OKT t) (hne : s.1 9 ≠ s.1 4) : ∃ s', X2_refresh k s = some s' ∧ RanksOK s' t ∧ ScR s s' ∧ s'.1 9 = s.1 4 := by
  have p8 := pow8 hO.1.2
  unfold X2_refresh
  rw [if_neg hne, nm_u, X4_all_v (show (sI s 20 (s.1 1)).1 1 = nI (tN t) from hX.1) hO.1.2, bd_s, nm_u, hX.1]
  obtain ⟨q, hq⟩ : ∃ q, q = sI (sI s 20 (nI (tN t))) 21 (nI (2 ^ tN t - 1)) := ⟨_, rfl⟩
  rw [← hq]
  have hXq : XT q 1 0 t := by rw [hq]; exact hX
  have q20 : q.1 20 = nI (tN t) := by rw [hq]; rfl
  have q21 : q.1 21 = nI (2 ^ tN t - 1) := by rw [hq]; rfl
  have qc : ∀ c, c < 20 → q.1 c = s.1 c := fun c hc => by rw [hq, st_II, if_neg (by omega), st_II, if_neg (by omega)]
  have qa : q.2 = s.2 := by rw [hq]; rfl
  clear hq
  obtain ⟨a0, b0, e0, m0⟩ := X1_begin_13_m (n := k) (by omega) q (tG t)
  rw [e0, bd_s]
  have hX0 : XT (mB13 q a0 b0) 1 0 t := hXq
  obtain ⟨s1, e1, ⟨a1, b1, z1⟩, m1⟩ := refresh_L1 hk hX0 hO m0
  rw [mB13_mB] at z1
  subst z1
  rw [l0, e1, bd_s, X2_fill_a16_a13_v hk (show (mB13 q a1 b1).1 20 = nI (tN t) from q20) (show (mB13 q a1 b1).1 21 = nI (2 ^ tN t - 1) from q21) hO.1.2 m1, bd_s]
  obtain ⟨a2, b2, e2, m2⟩ := X1_begin_10_m (n := k) (by omega) (sA (mB13 q a1 b1) 6 (fl ((mB13 q a1 b1).2.1 6) (fun x => nI (gr (tG t) (tN t) x)) (2 ^ tN t))) (tF t)
  rw [e2, bd_s]
  obtain ⟨s3, e3, ⟨a3, b3, z3⟩, m3⟩ := refresh_L2 (s := mB10 (sA (mB13 q a1 b1) 6 (fl ((mB13 q a1 b1).2.1 6) (fun x => nI (gr (tG t) (tN t) x)) (2 ^ tN t))) a2 b2) hk hXq hO m2
  rw [mB10_mB] at z3
  subst z3
  rw [e3, bd_s, X2_fill_a17_a10_v (n := tN t) hk (by exact q20) (by exact q21) hO.1.2 m3, bd_s]
  simp only [nm_u]
  refine ⟨_, rfl, ⟨fun x hx => ?_, fun x hx => ?_, fun x hx => ?_, q20, q21⟩, ⟨fun c hc => ?_, fun c h6 h7 => ?_⟩, qc 4 (by omega)⟩
  · show fl (q.2.1 6) (fun x => nI (gr (tG t) (tN t) x)) (2 ^ tN t) x = _
    rw [fl_in hx]
  · show fl (q.2.1 7) (fun x => nI (gr (tF t) (tK t) x)) (2 ^ tN t) x = _
    rw [fl_in hx]
  · exact m3 x hx
  · rw [st_II, if_neg hc.1]; exact qc c hc.2
  · rw [st_IA, st_AA, if_neg h7, mB10_2, st_AA, if_neg h6, mB13_2, qa]
/-- fresh ranks, from the cache or anew -/
def RKc (s : ST) (t : TB) (ch : Nat) : Prop := s.1 9 = -1 ∨ ∃ m, s.1 9 = nI m ∧ m ≤ ch ∧ (m = ch → RanksOK s t)
theorem X6_freshRanks_v {k ch : Nat} {s : ST} {t : TB} (hk : 300 < k) (hX : XT s 1 0 t) (hO : OKT t) (hc : s.1 4 = nI ch) (h31 : ch < 2 ^ 31) (hR : RKc s t ch) : ∃ s', X6_freshRanks k s = some s' ∧ RanksOK s' t ∧ ScR s s' ∧ RKc s' t ch ∧ s'.1 4 = nI ch ∧ XT s' 1 0 t := by
  unfold X6_freshRanks
  by_cases h : s.1 9 = s.1 4
  · have hr : RanksOK s t := by
      rcases hR with q | ⟨m, q1, q2, q3⟩
      · rw [q, hc] at h
        exfalso
        have := congrArg Int32.toInt h
        rw [nI_toInt h31] at this
        rw [show (-1 : Int32).toInt = -1 from by decide] at this
        omega
      · rw [q1, hc, nI_inj (by omega) h31] at h
        exact q3 h
    refine ⟨s, ?_, hr, ScR.rf s, hR, hc, hX⟩
    unfold X2_refresh
    rw [if_pos h, bd_s]
  · obtain ⟨s', e, r, q, z⟩ := X2_refresh_v hk hX hO h
    have h4 : s'.1 4 = nI ch := by rw [q.1 4 (by omega)]; exact hc
    refine ⟨s', by rw [e, bd_s], r, q, Or.inr ⟨ch, ?_, Nat.le_refl _, fun _ => r⟩, h4, hX.scR q (by omega) (by omega)⟩
    rw [z, hc]
/-- the four sides -/
def rw4 (t : TB) (w : Nat) : Nat → Nat := if w = 0 then du (tN t) (gr (tG t) (tN t)) else if w = 1 then gr (tF t) (tK t) else if w = 2 then gr (tG t) (tN t) else du (tN t) (gr (tF t) (tK t))
theorem rw4_0 (t : TB) : rw4 t 0 = du (tN t) (gr (tG t) (tN t)) := if_pos rfl
theorem rw4_1 (t : TB) : rw4 t 1 = gr (tF t) (tK t) := by unfold rw4; rw [if_neg (by omega), if_pos rfl]
theorem rw4_2 (t : TB) : rw4 t 2 = gr (tG t) (tN t) := by unfold rw4; rw [if_neg (by omega), if_neg (by omega), if_pos rfl]
theorem rw4_3 (t : TB) : rw4 t 3 = du (tN t) (gr (tF t) (tK t)) := by unfold rw4; rw [if_neg (by omega), if_neg (by omega), if_neg (by omega)]
theorem rw4_rk {t : TB} (h : OKT t) (w : Nat) : RK (tN t) (rw4 t w) := by
  have a := gr_rk (tG t) (tN t) h.1.2
  have b := gr_rk (tF t) (tK t) h.1.2
  unfold rw4
  split
  · exact du_rk a
  · split
    · exact b
    · split
      · exact a
      · exact du_rk b
theorem rw4_le {t : TB} (h : OKT t) (w : Nat) {x : Nat} (hx : x < 2 ^ tN t) : rw4 t w x ≤ 8 := Nat.le_trans ((rw4_rk h w).le_pc hx) (pc_le8 x)
theorem du_val {n x : Nat} {r : Nat → Nat} (h : RK n r) (hx : x < 2 ^ n) : nI (pc x) + nI (r (dif (2 ^ n - 1) x)) - nI (r (2 ^ n - 1)) = nI (du n r x) := by
  have a := du_ok h hx
  rw [nI_add, pk_sub (by omega)]
  rfl
theorem X2_of_v {s : ST} {t : TB} {w x : Nat} (hR : RanksOK s t) (hn : s.1 1 = nI (tN t)) (hO : OKT t) (hw : w < 4) (hx : x < 2 ^ tN t) : X2_of s (nI w) (nI x) = some (nI (rw4 t w x)) := by
  have p8 := pow8 hO.1.2
  have hp := Nat.two_pow_pos (tN t)
  have hd : dif (2 ^ tN t - 1) x < 2 ^ tN t := dif_lt (by omega)
  have a := gr_rk (tG t) (tN t) hO.1.2
  have b := gr_rk (tF t) (tK t) hO.1.2
  have : w = 0 ∨ w = 1 ∨ w = 2 ∨ w = 3 := by omega
  unfold X2_of
  rcases this with rfl | rfl | rfl | rfl
  · rw [if_pos (show nI 0 = 0 from rfl), if_neg (by decide), if_neg (by decide), hR.2.2.2.2, J6_bit_all x (by omega), bd_s, nx_not, inb_t (show dif (2 ^ tN t - 1) x < 256 by omega) (by omega), gd_t, inb_t (show 2 ^ tN t - 1 < 256 by omega) (by omega), gd_t, nI_clamp (by omega), nI_clamp (by omega), hR.1 _ hd, hR.1 _ (by omega), du_val a hx]
    rw [rw4_0]
  · rw [if_neg (by decide), if_neg (by decide), if_pos (by decide), inb_t (show x < 256 by omega) (by omega), gd_t, nI_clamp (by omega), hR.2.1 _ hx]
    rw [rw4_1]
  · rw [if_neg (by decide), if_pos (by decide), if_neg (by decide), if_pos (by decide), inb_t (show x < 256 by omega) (by omega), gd_t, nI_clamp (by omega), hR.1 _ hx]
    rw [rw4_2]
  · rw [if_neg (by decide), if_neg (by decide), if_neg (by decide), if_neg (by decide), hR.2.2.2.2, J6_bit_all x (by omega), bd_s, nx_not, inb_t (show dif (2 ^ tN t - 1) x < 256 by omega) (by omega), gd_t, inb_t (show 2 ^ tN t - 1 < 256 by omega) (by omega), gd_t, nI_clamp (by omega), nI_clamp (by omega), hR.2.1 _ hd, hR.2.1 _ (by omega), du_val b hx]
    rw [rw4_3]
