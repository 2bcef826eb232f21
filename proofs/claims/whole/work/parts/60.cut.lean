/-! PURE 15: reached posts; cuts -/
theorem pc_all_le : ∀ {n : Nat}, n ≤ 8 → pc (2 ^ n - 1) ≤ n := by
  intro n h
  have : ∀ n, n ≤ 8 → pc (2 ^ n - 1) ≤ n := by decide
  exact this n h
def RI (n : Nat) (ro : Nat → Nat) (x c r : Nat) : Prop := r < 2 ^ n ∧ sub (dif x c) r ∧ sub r (dif (2 ^ n - 1) c) ∧ ∀ r', ReachUp n ro x c r' → sub r r'
/-- one pass: what is reached from r by one road -/
def stp (ro : Nat → Nat) (c r : Nat) : Nat → Nat
  | 0 => r
  | i + 1 => if r.testBit i = true then stp ro c r i ||| dif (ro i) c else stp ro c r i
theorem stp_s (ro : Nat → Nat) (c r i : Nat) : stp ro c r (i + 1) = if r.testBit i = true then stp ro c r i ||| dif (ro i) c else stp ro c r i := rfl
theorem RI.grow {n x c r y i : Nat} {ro : Nat → Nat} (hr : RI n ro x c r) (hy : RI n ro x c y) (hro : ro i < 2 ^ n) (hi : i < n) (hri : r.testBit i = true) : RI n ro x c (y ||| dif (ro i) c) := by
  obtain ⟨h1, h2, h3, h4⟩ := hy
  refine ⟨Nat.or_lt_two_pow h1 (dif_lt hro), sub_tr h2 (sub_or_l _ _), sub_or h3 fun j hj => ?_, fun r' g => sub_or (h4 r' g) (g.2 i hi (hr.2.2.2 r' g i hri))⟩
  rw [dif_tb, Bool.and_eq_true] at hj
  rw [dif_tb, hj.2, tb_all, decide_eq_true (tb_lt hro hj.1)]; rfl
theorem stp_RI {n x c r : Nat} {ro : Nat → Nat} (hro : ∀ i, i < n → ro i < 2 ^ n) (h : RI n ro x c r) : ∀ {i : Nat}, i ≤ n → RI n ro x c (stp ro c r i)
  | 0, _ => h
  | i + 1, hi => by
    have ih := stp_RI hro h (i := i) (by omega)
    rw [stp_s]
    by_cases q : r.testBit i = true
    · rw [if_pos q]; exact h.grow ih (hro i (by omega)) (by omega) q
    · rw [if_neg q]; exact ih
theorem stp_sub {ro : Nat → Nat} {c r : Nat} : ∀ {i : Nat}, sub r (stp ro c r i)
  | 0 => sub_rf r
  | i + 1 => by
    rw [stp_s]
    split
    · exact sub_tr stp_sub (sub_or_l _ _)
    · exact stp_sub
theorem stp_in {ro : Nat → Nat} {c r j : Nat} (hj : r.testBit j = true) : ∀ {i : Nat}, j < i → sub (dif (ro j) c) (stp ro c r i)
  | 0, h => by omega
  | i + 1, h => by
    rw [stp_s]
    by_cases e : j = i
    · subst e; rw [if_pos hj]; exact sub_or_r _ _
    · have ih := stp_in (ro := ro) (c := c) hj (i := i) (by omega)
      split
      · exact sub_tr ih (sub_or_l _ _)
      · exact ih
theorem reached_L2 {k n c r : Nat} {s : ST} {ro : Nat → Nat} (hk : 10 < k) (hn : s.1 1 = nI n) (h8 : n ≤ 8) (hr : ∀ i, i < 8 → s.2.1 0 i = nI (ro i)) (hrl : r < 256) : X4_reached_L2 s (nI c) (nI r) k (nI 0) (nI r) = some (nI (stp ro c r n)) :=
  loop0 (F := fun j i v => X4_reached_L2 s (nI c) (nI r) j (nI i) v) (t := nI (stp ro c r n)) n (fun i => nI (stp ro c r i)) (fun j i hi => by
    show X4_reached_L2_b s (nI c) (nI r) (X4_reached_L2 s (nI c) (nI r) j) (nI i) _ = _
    unfold X4_reached_L2_b
    rw [hn, if_neg (by rw [nI_lep (by omega) (by omega)]; omega), X6_has_v (by omega) (by omega), bd_s, stp_s]
    by_cases q : r.testBit i = true
    · rw [ib_t q, if_pos q, inb_t (show i < 8 by omega) (by omega), gd_t, nI_clamp (by omega), hr i (by omega), nx_not, nx_or]
      simp only [nm_u, nI_1]
    · rw [ib_f (by simpa using q), if_neg q]
      simp only [nm_u, nI_1]) (fun j => by
    show X4_reached_L2_b s (nI c) (nI r) (X4_reached_L2 s (nI c) (nI r) j) (nI n) _ = _
    unfold X4_reached_L2_b
    rw [hn, if_pos (by rw [nI_lep (by omega) (by omega)]; exact Nat.le_refl _)]) (k := k) (by omega)
theorem X4_reached_v {k n x c : Nat} {s : ST} {ro : Nat → Nat} (hk : 300 < k) (hn : s.1 1 = nI n) (h8 : n ≤ 8) (hr : ∀ i, i < 8 → s.2.1 0 i = nI (ro i)) (hro : ∀ i, i < 8 → ro i < 2 ^ n) (hx : x < 2 ^ n) : ∃ r, X4_reached k s (nI x) (nI c) = some (nI r) ∧ IsReach n ro x c r ∧ r < 2 ^ n := by
  have p8 := pow8 h8
  have hp := Nat.two_pow_pos n
  have key : ∀ d i r j, i + d = n → d < j → RI n ro x c r → i ≤ pc r → ∃ r', X4_reached_L1 k s (nI c) j (nI i) (nI r) = some (nI r') ∧ IsReach n ro x c r' ∧ r' < 2 ^ n := by
    intro d
    induction d with
    | zero =>
      intro i r j h1 h2 h3 h4
      obtain ⟨j, rfl⟩ : ∃ i, j = i + 1 := ⟨j - 1, by omega⟩
      have hi : i = n := by omega
      rw [hi] at h4 ⊢
      refine ⟨r, ?_, ⟨⟨h3.2.1, fun i hi _ => ?_⟩, h3.2.2.1, h3.2.2.2⟩, h3.1⟩
      · show X4_reached_L1_b k s (nI c) (X4_reached_L1 k s (nI c) j) (nI n) (nI r) = _
        unfold X4_reached_L1_b
        rw [hn, if_pos (by rw [nI_lep (by omega) (by omega)]; exact Nat.le_refl _)]
      · have e : r = 2 ^ n - 1 := sub_eq (by omega) (sub_all h3.1) (by
          have : pc (2 ^ n - 1) ≤ n := pc_all_le h8
          omega)
        exact sub_tr (sub_dif _ _) (by rw [e]; exact sub_all (hro i (by omega)))
    | succ d ih =>
      intro i r j h1 h2 h3 h4
      obtain ⟨j, rfl⟩ : ∃ i, j = i + 1 := ⟨j - 1, by omega⟩
      have g := stp_RI (fun i hi => hro i (by omega)) h3 (Nat.le_refl n)
      have l1 := g.1
      have l2 := h3.1
      show ∃ r', X4_reached_L1_b k s (nI c) (X4_reached_L1 k s (nI c) j) (nI i) (nI r) = _ ∧ _
      unfold X4_reached_L1_b
      rw [hn, if_neg (by rw [nI_lep (by omega) (by omega)]; omega), l0, reached_L2 (by omega) hn h8 hr (by omega), bd_s]
      by_cases q : stp ro c r n = r
      · rw [if_pos (by rw [q])]
        refine ⟨r, rfl, ⟨⟨h3.2.1, fun i hi hri => ?_⟩, h3.2.2.1, h3.2.2.2⟩, h3.1⟩
        have := stp_in (ro := ro) (c := c) hri (i := n) hi
        rw [q] at this
        exact this
      · rw [if_neg (by rw [nI_inj (by omega) (by omega)]; exact q), nm_u, nI_1]
        refine ih (i + 1) _ j (by omega) (by omega) g ?_
        rcases Nat.lt_or_ge (pc r) (pc (stp ro c r n)) with z | z
        · omega
        · exact absurd (sub_eq (by omega) stp_sub z).symm q
  unfold X4_reached
  have h0 : RI n ro x c (dif x c) := ⟨dif_lt hx, sub_rf _, fun i hi => by
    rw [dif_tb, Bool.and_eq_true] at hi
    rw [dif_tb, tb_all, hi.2, decide_eq_true (tb_lt hx hi.1)]; rfl, fun r' g => g.1⟩
  obtain ⟨r, e, g⟩ := key n 0 _ k (by omega) (by omega) h0 (by omega)
  refine ⟨r, ?_, g⟩
  rw [nm_u, nx_not, l0, e, bd_s]
theorem reach_L2 {k n x r : Nat} {s : ST} {ro : Nat → Nat} (hk : 10 < k) (hn : s.1 0 = nI n) (h8 : n ≤ 8) (hr : ∀ i, i < 8 → s.2.1 0 i = nI (ro i)) (hro : ∀ i, i < 8 → ro i < 2 ^ n) (h : RI n ro x 0 r) : ∃ r', X7_reach_L2 s k (nI 0) (nI r) = some (nI r') ∧ RI n ro x 0 r' ∧ sub r r' ∧ (r' = r → ∀ i, i < n → r.testBit i = true → sub (ro i) r) := by
  have p8 := pow8 h8
  obtain ⟨z, e, r', hz, g⟩ := loopInv0 (F := fun j i (z : Int32) => X7_reach_L2 s j (nI i) z) (Q := fun z => ∃ r', z = nI r' ∧ RI n ro x 0 r' ∧ sub r r' ∧ (∀ i, i < n → r.testBit i = true → sub (ro i) r')) (fun i z => ∃ r', z = nI r' ∧ RI n ro x 0 r' ∧ sub r r' ∧ (∀ j, j < i → r.testBit j = true → sub (ro j) r')) n (fun j i z hi ⟨r', hz, g1, g2, g3⟩ => by
      subst hz
      have l1 := g1.1
      show ∃ z', _ ∧ X7_reach_L2_b s (X7_reach_L2 s j) (nI i) (nI r') = _
      unfold X7_reach_L2_b
      rw [hn, if_neg (by rw [nI_lep (by omega) (by omega)]; omega), X7_has_v (by omega) (by omega), bd_s]
      by_cases q : r'.testBit i = true
      · have gr := g1.grow g1 (hro i (by omega)) hi q
        have e0 : dif (ro i) 0 = ro i := tb_ext fun j => by rw [dif_tb, Nat.zero_testBit]; simp
        rw [e0] at gr
        refine ⟨nI (r' ||| ro i), ⟨_, rfl, gr, sub_tr g2 (sub_or_l _ _), fun j hj hrj => ?_⟩, ?_⟩
        · by_cases e : j = i
          · subst e; exact sub_or_r _ _
          · exact sub_tr (g3 j (by omega) hrj) (sub_or_l _ _)
        · rw [ib_t q, inb_t (show i < 8 by omega) (by omega), gd_t, nI_clamp (by omega), hr i (by omega), nx_or]
          simp only [nm_u, nI_1]
      · refine ⟨nI r', ⟨_, rfl, g1, g2, fun j hj hrj => ?_⟩, ?_⟩
        · by_cases e : j = i
          · subst e; exact absurd (g2 j hrj) q
          · exact g3 j (by omega) hrj
        · rw [ib_f (by simpa using q), l0, nx_or, Nat.or_zero]
          simp only [nm_u, nI_1]) (fun j z ⟨r', hz, g⟩ => by
      subst hz
      refine ⟨_, ?_, r', rfl, g⟩
      show X7_reach_L2_b s (X7_reach_L2 s j) (nI n) (nI r') = _
      unfold X7_reach_L2_b
      rw [hn, if_pos (by rw [nI_lep (by omega) (by omega)]; exact Nat.le_refl _)]) (k := k) (by omega) (a := nI r) ⟨r, rfl, h, sub_rf r, fun j hj => by omega⟩
  subst hz
  exact ⟨r', e, g.1, g.2.1, fun q => by rw [q] at g; exact g.2.2⟩
theorem X7_reach_w {k n x : Nat} {s : ST} {ro : Nat → Nat} (hk : 300 < k) (hn : s.1 0 = nI n) (h8 : n ≤ 8) (hr : ∀ i, i < 8 → s.2.1 0 i = nI (ro i)) (hro : ∀ i, i < 8 → ro i < 2 ^ n) (hx : x < 2 ^ n) : ∃ r, X7_reach_L1 k s k (nI 0) (nI x) = some (nI r) ∧ IsReach n ro x 0 r := by
  have p8 := pow8 h8
  have hp := Nat.two_pow_pos n
  have e0 : ∀ y, dif y 0 = y := fun y => tb_ext fun j => by rw [dif_tb, Nat.zero_testBit]; simp
  have key : ∀ d r b j, RI n ro x 0 r → b < 2 ^ n → 2 ^ n ≤ r + d → d < j → (b = r → ∀ i, i < n → r.testBit i = true → sub (ro i) r) → ∃ r', X7_reach_L1 k s j (nI b) (nI r) = some (nI r') ∧ IsReach n ro x 0 r' := by
    intro d
    induction d with
    | zero =>
      intro r b j h1 hb h2 h3 h4
      have := h1.1
      omega
    | succ d ih =>
      intro r b j h1 hb h2 h3 h4
      obtain ⟨j, rfl⟩ : ∃ i, j = i + 1 := ⟨j - 1, by omega⟩
      obtain ⟨j, rfl⟩ : ∃ i, j = i + 1 := ⟨j - 1, by omega⟩
      have l1 := h1.1
      have done : (∀ i, i < n → r.testBit i = true → sub (ro i) r) → IsReach n ro x 0 r := fun g => ⟨⟨h1.2.1, fun i hi hri => by rw [e0]; exact g i hi hri⟩, h1.2.2.1, h1.2.2.2⟩
      show ∃ r', X7_reach_L1_b k s (X7_reach_L1 k s (j + 1)) (nI b) (nI r) = _ ∧ _
      unfold X7_reach_L1_b
      by_cases q : r = b
      · rw [if_pos (by rw [q])]
        exact ⟨r, rfl, done (h4 q.symm)⟩
      · obtain ⟨r', e, g1, g2, g3⟩ := reach_L2 (k := k) (by omega) hn h8 hr hro h1
        rw [if_neg (by rw [nI_inj (by omega) (by omega)]; exact q), l0, e, bd_s]
        by_cases z : r' = r
        · subst z
          refine ⟨r', ?_, done (g3 rfl)⟩
          show X7_reach_L1_b k s (X7_reach_L1 k s j) (nI r') (nI r') = _
          unfold X7_reach_L1_b
          rw [if_pos rfl]
        · have := lt_ne g2 (Ne.symm z)
          exact ih r' r (j + 1) g1 l1 (by omega) (by omega) (fun w => absurd w.symm z)
  have h0 : RI n ro x 0 x := ⟨hx, sub_dif _ _, fun i hi => by
    rw [dif_tb, tb_all, decide_eq_true (tb_lt hx hi), Nat.zero_testBit]; rfl, fun r' g => by have := g.1; rw [e0] at this; exact this⟩
  exact key (2 ^ n) x 0 k h0 hp (by omega) (by omega) (fun w i hi hxi => by rw [← w, Nat.zero_testBit] at hxi; cases hxi)
theorem IsReach.un {n x c r r' : Nat} {ro : Nat → Nat} (h : IsReach n ro x c r) (g : IsReach n ro x c r') : r = r' := sub_anti (h.2.2 _ g.1) (g.2.2 _ h.1)
theorem case_reach {k N : Nat} {s u : ST} (h : Inv k s u) (hN : 300 < N) (v1 : Int32) : ∃ r, X6_reach N s v1 = some r ∧ X7_reach N u v1 = some r ∧ Inv (k + 1) s u := by
  obtain ⟨t, hO, hX, hU⟩ := h.tab
  have p8 := hO.p8
  unfold X6_reach X7_reach
  rw [(isSet_2 hO hX hU v1).1, (isSet_2 hO hX hU v1).2, bd_s, bd_s]
  refine bc (b := inR v1 (2 ^ tN t)) (fun q => ⟨_, by rw [ib_f q], by rw [ib_f q], h.mono⟩) fun q => ?_
  obtain ⟨x, hx, rfl⟩ := inR_t q (by omega)
  obtain ⟨r, e1, g1, -⟩ := X4_reached_v (c := 0) hN hX.1 hO.1.2 hX.2.2.2.1 (fun i hi => (hO.2.2.2.1 i hi).1) hx
  obtain ⟨r', e2, g2⟩ := X7_reach_w hN hU.1 hO.1.2 hU.2.2.2.1 (fun i hi => (hO.2.2.2.1 i hi).1) hx
  rw [ib_t q, ib_t q, l0, e1, e2, bd_s, bd_s, g1.un g2]
  exact ⟨_, rfl, rfl, h.mono⟩
theorem case_cut {k N : Nat} {s u : ST} (h : Inv k s u) (hk : k < 512) (hN : 300 < N) (v1 : Int32) : ∃ r s' u', X6_cut N s v1 = some (r, s') ∧ X7_cut N u v1 = some (r, u') ∧ Inv (k + 1) s' u' := by
  obtain ⟨t, s', hO, hX, hU, e, hR, hX', hSc, hI⟩ := h.sides hk hN
  have p8 := hO.p8
  have h8 := hO.1.2
  have hp := Nat.two_pow_pos (tN t)
  unfold X6_cut X7_cut
  rw [(isSet_2 hO hX hU v1).1, (isSet_2 hO hX hU v1).2, bd_s, bd_s]
  refine bc (b := inR v1 (2 ^ tN t)) (fun q => ⟨_, _, _, by rw [ib_f q], by rw [ib_f q], h.mono⟩) fun q => ?_
  obtain ⟨x, hx, rfl⟩ := inR_t q (by omega)
  obtain ⟨a, ea, sa, op, hop⟩ := X7_layCuts_v hN hU hO
  have hA := hU.scM sa.m (by omega)
  obtain ⟨c, ec, hc, hcl⟩ := X7_cutOf_v hN hA.1 h8 hop hx
  have kc := kappa h8 hO.2.1 hx (fun c hc => (hop c hc).2.1) hc
  have hcn := hc.1
  have ok : ∀ d, d < 2 ^ tN t → X4_isCut N s' (nI x) (nI d) = some (bI (decide (x &&& op d = 0))) := fun d hd => by
    obtain ⟨r, er, gr, lr⟩ := X4_reached_v (c := d) hN hX'.1 h8 hX'.2.2.2.1 (fun i hi => (hO.2.2.2.1 i hi).1) hx
    have cb := cut_both (fun i hi => (hO.2.2.2.1 i (by omega)).1) hO.2.1 hx (hop d hd).2.1 gr
    have hand := Nat.and_le_left (n := r) (m := tT t)
    unfold X4_isCut
    rw [er, bd_s, hX'.2.1, nx_and]
    by_cases z : r &&& tT t = 0
    · rw [if_pos (by rw [nI_eq0 (by omega)]; exact z), decide_eq_true (cb.mpr z)]; rfl
    · rw [if_neg (by rw [nI_eq0 (by omega)]; exact z), decide_eq_false (fun w => z (cb.mp w))]; rfl
  have pl := pc_le8 c
  have r0 : rw4 t 0 x = pc c := by rw [rw4_0]; exact kc.symm
  have ss := loopSearch (F := fun j i => X6_cut_L1 N s' (nI (2 ^ tN t - 1)) (nI (pc c)) (nI x) j (nI i)) (2 ^ tN t) (fun d => decide (pc d = pc c) && decide (x &&& op d = 0)) (fun i => Sum.inl (nI i, s')) (Sum.inr ()) (fun j i hi => by
      show X6_cut_L1_b N s' (nI (2 ^ tN t - 1)) (nI (pc c)) (nI x) (X6_cut_L1 N s' (nI (2 ^ tN t - 1)) (nI (pc c)) (nI x) j) (nI i) = _
      unfold X6_cut_L1_b
      have pi := pc_le8 i
      rw [if_neg (by rw [nI_ltp (by omega) (by omega)]; omega), J6_bit_all _ (by omega), bd_s]
      by_cases z : pc i = pc c
      · rw [if_pos (by rw [z]), ok i hi, bd_s, decide_eq_true z, Bool.true_and]
        by_cases z2 : x &&& op i = 0
        · rw [decide_eq_true z2, ib_t rfl]; rfl
        · rw [decide_eq_false z2, ib_f rfl, nm_u, nI_1]; rfl
      · rw [if_neg (by rw [nI_inj (by omega) (by omega)]; exact z), decide_eq_false z, nm_u, nI_1]; rfl) (fun j => by
      show X6_cut_L1_b N s' (nI (2 ^ tN t - 1)) (nI (pc c)) (nI x) (X6_cut_L1 N s' (nI (2 ^ tN t - 1)) (nI (pc c)) (nI x) j) (nI (2 ^ tN t)) = _
      unfold X6_cut_L1_b
      rw [if_pos (by rw [nI_ltp (by omega) (by omega)]; omega)]) (k := N) (by omega)
  rw [ib_t q, ib_t q, e, bd_s, l0, X2_of_v hR hX'.1 hO (by omega) hx, bd_s, X4_all_v hX'.1 h8, bd_s, r0, ea, bd_s, ec, bd_s]
  rcases ss with ⟨i, i1, i2, i3, i4⟩ | ⟨i1, -⟩
  · rw [Bool.and_eq_true, decide_eq_true_iff, decide_eq_true_iff] at i2
    have le := hcl i i1 i2.2 i2.1
    have : i = c := by
      rcases Nat.lt_or_ge c i with z | z
      · have := i3 c z
        rw [decide_eq_true rfl, decide_eq_true hc.2.1] at this
        cases this
      · omega
    subst this
    rw [i4, bd_s]
    exact ⟨_, _, _, rfl, rfl, hI a sa.m⟩
  · have := i1 c hcn
    rw [decide_eq_true rfl, decide_eq_true hc.2.1] at this
    cases this
