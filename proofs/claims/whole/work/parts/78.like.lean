/-! PURE 33: spare, room, idle -/
theorem or_z (x : Nat) : nI x ||| (0 : Int32) = nI x := by rw [l0, nx_or, Nat.or_zero]
theorem Inv.mb {k : Nat} {s u : ST} {b c : Nat → Int64} (h : Inv k s u) : Inv k (mB13 s b c) u := by
  obtain ⟨t, h1, h2, h3, h4, h5, h6, h7⟩ := h
  exact ⟨t, h1, h2.cg rfl rfl rfl rfl rfl rfl, h3, h4.cg0 rfl rfl rfl rfl rfl rfl rfl rfl rfl rfl, h5.cg rfl rfl rfl rfl rfl rfl rfl rfl rfl, h6.cg rfl rfl rfl rfl, h7.cg rfl rfl rfl rfl rfl rfl⟩
theorem OKT.fam {t : TB} {F : Nat → Nat} (hO : OKT t) (hF : ∀ j, j < tK t → F j < 2 ^ tN t) : OKT (tbF t (tK t) F) := ⟨hO.1, hO.2.1, hO.2.2.1, hO.2.2.2.1, hO.2.2.2.2.1, hF⟩
theorem up1_lt {F : Nat → Nat} {K n a y : Nat} (hF : ∀ j, j < K → F j < 2 ^ n) (hy : y < 2 ^ n) : ∀ j, j < K → up1 F a y j < 2 ^ n := fun j hj => by
  unfold up1
  by_cases e : j = a
  · rw [if_pos e]; exact hy
  · rw [if_neg e]; exact hF j hj
/-- one set's own place may be another -/
def ScG (a : Nat) (u u' : ST) : Prop := (∀ c, u'.1 c = u.1 c) ∧ (∀ c, c ≠ 2 → c < 7 ∨ 10 < c → u'.2.1 c = u.2.1 c) ∧ ∀ j, j ≠ a → u'.2.1 2 j = u.2.1 2 j
theorem ScG.rf (a : Nat) (u : ST) : ScG a u u := ⟨fun _ => rfl, fun _ _ _ => rfl, fun _ _ => rfl⟩
theorem ScG.put {a : Nat} {u w : ST} (g : ScG a u w) (y : Int32) : ScG a u (sA w 2 (upd (w.2.1 2) a y)) := ⟨g.1, fun c h1 h2 => by rw [sA_ne h1]; exact g.2.1 c h1 h2, fun j hj => by rw [sA_at, upd_q, if_neg hj]; exact g.2.2 j hj⟩
theorem ScG.scL {a : Nat} {u w w' : ST} (g : ScG a u w) (h : ScL w w') : ScG a u w' := ⟨fun c => (h.1 c).trans (g.1 c), fun c h1 h2 => (h.2 c h2).trans (g.2.1 c h1 h2), fun j hj => by rw [h.2 2 (by omega)]; exact g.2.2 j hj⟩
theorem ScG.xt {a y : Nat} {u w : ST} {t : TB} (g : ScG a u w) (hU : XT u 0 0 t) : XT (sA w 2 (upd (w.2.1 2) a (nI y))) 0 0 (tbF t (tK t) (up1 (tF t) a y)) := by
  refine ⟨(g.1 0).trans hU.1, (g.1 1).trans hU.2.1, (g.1 2).trans hU.2.2.1, fun i hi => ?_, fun i hi => ?_, fun j hj => ?_⟩
  · show w.2.1 0 i = _
    rw [g.2.1 0 (by omega) (by omega)]; exact hU.2.2.2.1 i hi
  · show w.2.1 1 i = _
    rw [g.2.1 1 (by omega) (by omega)]; exact hU.2.2.2.2.1 i hi
  · show upd (w.2.1 2) a (nI y) j = nI (up1 (tF t) a y j)
    unfold upd up1
    by_cases e : j = a
    · rw [if_pos e, if_pos e]
    · rw [if_neg e, if_neg e, g.2.2 j e]; exact hU.2.2.2.2.2 j hj
theorem ScG.back {a : Nat} {u w : ST} (g : ScG a u w) : ScL u (sA w 2 (upd (w.2.1 2) a (u.2.1 2 a))) := by
  refine ⟨g.1, fun c hc => ?_⟩
  by_cases e : c = 2
  · subst e
    rw [sA_at]
    funext j
    rw [upd_q]
    by_cases q : j = a
    · rw [if_pos q, q]
    · rw [if_neg q]; exact g.2.2 j q
  · rw [sA_ne e]; exact g.2.1 c e hc
theorem WasB.cg {u u' : ST} {n m : Nat} {B : Nat → Nat} (h : WasB u n B m) (e : u'.2.1 13 = u.2.1 13) : WasB u' n B m := fun x hx => by rw [e]; exact h x hx
/-- may post i change its side in set a -/
def lkP (t : TB) (a x i : Nat) : Bool := x.testBit i && same (up1 (tF t) a (tF t a ^^^ 2 ^ i)) (tK t) (tF t) (tK t)
theorem xor_two_lt {x n i : Nat} (hx : x < 2 ^ n) (hi : i < n) : x ^^^ 2 ^ i < 2 ^ n := Nat.xor_lt_two_pow hx (Nat.pow_lt_pow_right (by omega) hi)
theorem likewise_v {N a x : Nat} {s : ST} {t : TB} (hN : 300 < N) (hO : OKT t) (hX : XT s 1 0 t) (hM : MB10 s (tF t) (tK t)) (ha : a < tK t) (hx : x < 2 ^ tN t) : ∃ b c, X6_likewise_L1 N (nI (tF t a)) (nI a) (nI x) N (0 : Int32) (0 : Int32) s = some (nI (bld (lkP t a x) (tN t)), mB13 s b c) := by
  have p8 := hO.p8
  have h8 := hO.1
  have hK := hO.2.2.1
  have fa := hO.2.2.2.2.2 a ha
  obtain ⟨z, e, b, c, hz⟩ := loopInv0 (F := fun j i (z : Int32 × ST) => X6_likewise_L1 N (nI (tF t a)) (nI a) (nI x) j (nI i) z.1 z.2) (Q := fun z => ∃ b c, z = (nI (bld (lkP t a x) (tN t)), mB13 s b c)) (fun i z => ∃ b c, z = (nI (bld (lkP t a x) i), mB13 s b c)) (tN t) (fun j i z hi ⟨b, c, hz⟩ => by
    subst hz
    show ∃ z', _ ∧ X6_likewise_L1_b N (nI (tF t a)) (nI a) (nI x) (X6_likewise_L1 N (nI (tF t a)) (nI a) (nI x) j) (nI i) (nI (bld (lkP t a x) i)) (mB13 s b c) = _
    unfold X6_likewise_L1_b
    rw [show (mB13 s b c).1 1 = nI (tN t) from hX.1, if_neg (by rw [nI_lep (by omega) (by omega)]; omega), X6_has_v (by omega) (by omega), bd_s]
    by_cases q : x.testBit i = true
    · have xl := xor_two_lt fa hi
      obtain ⟨b', c', e⟩ := stays_v (N := N) (a := a) (z := tF t a ^^^ 2 ^ i) (s := mB13 s b c) (m := tK t) (B := tF t) hN hO (hX.cg rfl rfl rfl rfl rfl rfl) hM ha xl
      rw [mB13_mB] at e
      have lp : lkP t a x i = same (up1 (tF t) a (tF t a ^^^ 2 ^ i)) (tK t) (tF t) (tK t) := by unfold lkP; rw [q, Bool.true_and]
      rw [ib_t q, nx_shl1 (by omega), nx_xor, e, bd2_s]
      refine ⟨(nI (bld (lkP t a x) (i + 1)), mB13 s b' c'), ⟨b', c', rfl⟩, ?_⟩
      rw [bld_s, lp]
      cases same (up1 (tF t) a (tF t a ^^^ 2 ^ i)) (tK t) (tF t) (tK t) with
      | false => rw [ib_f rfl, nm_u, nI_1]; rfl
      | true => rw [ib_t rfl, nx_or, nm_u, nm_u, nI_1]; rfl
    · have lp : lkP t a x i = false := by unfold lkP; rw [show x.testBit i = false by simpa using q]; rfl
      refine ⟨(nI (bld (lkP t a x) (i + 1)), mB13 s b c), ⟨b, c, rfl⟩, ?_⟩
      rw [ib_f (by simpa using q), nm_u, nI_1, bld_s, lp]; rfl) (fun j z ⟨b, c, hz⟩ => by
    subst hz
    refine ⟨_, ?_, b, c, rfl⟩
    show X6_likewise_L1_b N (nI (tF t a)) (nI a) (nI x) (X6_likewise_L1 N (nI (tF t a)) (nI a) (nI x) j) (nI (tN t)) (nI (bld (lkP t a x) (tN t))) (mB13 s b c) = _
    unfold X6_likewise_L1_b
    rw [show (mB13 s b c).1 1 = nI (tN t) from hX.1, if_pos (by rw [nI_lep (by omega) (by omega)]; exact Nat.le_refl _)]) (k := N) (by omega) (a := ((0 : Int32), s)) ⟨s.2.2 2, s.2.2 3, by rw [mB13_id]; rfl⟩
  subst hz
  exact ⟨b, c, e⟩
theorem changing_v {N a x : Nat} {u : ST} {t : TB} (hN : 300 < N) (hO : OKT t) (hU : XT u 0 0 t) (hW : WasB u (tN t) (tF t) (tK t)) (ha : a < tK t) (hx : x < 2 ^ tN t) : ∃ w, X7_changing_L1 N (nI (tF t a)) (nI a) (nI x) N (0 : Int32) (0 : Int32) u = some (nI (bld (lkP t a x) (tN t)), w) ∧ ScG a u w := by
  have p8 := hO.p8
  have h8 := hO.1
  have hK := hO.2.2.1
  have fa := hO.2.2.2.2.2 a ha
  obtain ⟨z, e, w, hz, hg⟩ := loopInv0 (F := fun j i (z : Int32 × ST) => X7_changing_L1 N (nI (tF t a)) (nI a) (nI x) j (nI i) z.1 z.2) (Q := fun z => ∃ w, z = (nI (bld (lkP t a x) (tN t)), w) ∧ ScG a u w) (fun i z => ∃ w, z = (nI (bld (lkP t a x) i), w) ∧ ScG a u w) (tN t) (fun j i z hi ⟨w, hz, hg⟩ => by
    subst hz
    have xl := xor_two_lt fa hi
    have g8 := hg.put (nI (tF t a ^^^ 2 ^ i))
    have x8 := hg.xt (y := tF t a ^^^ 2 ^ i) hU
    show ∃ z', _ ∧ X7_changing_L1_b N (nI (tF t a)) (nI a) (nI x) (X7_changing_L1 N (nI (tF t a)) (nI a) (nI x) j) (nI i) (nI (bld (lkP t a x) i)) w = _
    unfold X7_changing_L1_b
    rw [hg.1 0, hU.1, if_neg (by rw [nI_lep (by omega) (by omega)]; omega), inb_t (show a < 8 by omega) (by omega), gd_t, nI_clamp (by omega), nx_shl1 (by omega), nx_xor, nm_u]
    generalize sA w 2 (upd (w.2.1 2) a (nI (tF t a ^^^ 2 ^ i))) = w8 at g8 x8 ⊢
    rw [X7_has_v (by omega) (by omega), bd_s]
    by_cases q : x.testBit i = true
    · obtain ⟨w', e, sl⟩ := are_v (N := N) hN (hO.fam (up1_lt (a := a) hO.2.2.2.2.2 xl)) x8 (m := tK t) (B := tF t) hO.2.2.2.2.2 (hW.cg (g8.2.1 13 (by omega) (by omega)))
      have e : X7_areBases N w8 = some (bI (same (up1 (tF t) a (tF t a ^^^ 2 ^ i)) (tK t) (tF t) (tK t)), w') := e
      have lp : lkP t a x i = same (up1 (tF t) a (tF t a ^^^ 2 ^ i)) (tK t) (tF t) (tK t) := by unfold lkP; rw [q, Bool.true_and]
      rw [ib_t q, e, bd2_s]
      refine ⟨(nI (bld (lkP t a x) (i + 1)), w'), ⟨w', rfl, g8.scL sl⟩, ?_⟩
      rw [bld_s, lp]
      cases same (up1 (tF t) a (tF t a ^^^ 2 ^ i)) (tK t) (tF t) (tK t) with
      | false => rw [ib_f rfl, or_z, nm_u, nm_u, nI_1]; rfl
      | true => rw [ib_t rfl, nx_or, nm_u, nm_u, nI_1]; rfl
    · have lp : lkP t a x i = false := by unfold lkP; rw [show x.testBit i = false by simpa using q]; rfl
      refine ⟨(nI (bld (lkP t a x) (i + 1)), w8), ⟨w8, rfl, g8⟩, ?_⟩
      rw [ib_f (by simpa using q), or_z, nm_u, nm_u, nI_1, bld_s, lp]; rfl) (fun j z ⟨w, hz, hg⟩ => by
    subst hz
    refine ⟨_, ?_, w, rfl, hg⟩
    show X7_changing_L1_b N (nI (tF t a)) (nI a) (nI x) (X7_changing_L1 N (nI (tF t a)) (nI a) (nI x) j) (nI (tN t)) (nI (bld (lkP t a x) (tN t))) w = _
    unfold X7_changing_L1_b
    rw [hg.1 0, hU.1, if_pos (by rw [nI_lep (by omega) (by omega)]; exact Nat.le_refl _)]) (k := N) (by omega) (a := ((0 : Int32), u)) ⟨u, rfl, ScG.rf a u⟩
  subst hz
  exact ⟨w, e, hg⟩
theorem like_2 {k N a x : Nat} {s s1 u : ST} {t : TB} (hN : 300 < N) (hO : OKT t) (hU : XT u 0 0 t) (e : X6_freshRanks N s = some s1) (hR : RanksOK s1 t) (hX : XT s1 1 0 t) (hI : ∀ u', ScM u u' → Inv (k + 1) s1 u') (ha : a < tK t) (hx : x < 2 ^ tN t) : ∃ r s' u', X6_likewise N s (nI a) (nI x) = some (r, s') ∧ X7_changing N u (nI a) (nI x) = some (r, u') ∧ Inv (k + 1) s' u' := by
  have hK := hO.2.2.1
  obtain ⟨b, c, e1⟩ := likewise_v (N := N) hN hO hX hR.2.2.1 ha hx
  obtain ⟨u1, e2, m1, w1⟩ := keeps_v (N := N) hN hO hU
  have hU1 := hU.scM m1 (by omega)
  obtain ⟨w, e3, g⟩ := changing_v (N := N) hN hO hU1 w1 ha hx
  have gb := g.back
  rw [hU1.2.2.2.2.2 a ha] at gb
  unfold X6_likewise X7_changing
  rw [e, bd_s, inb_t (show a < 8 by omega) (by omega), gd_t, nI_clamp (by omega), hX.2.2.2.2.2 a ha, nm_u, e1, bd_s, e2, bd_s, gd_t, hU1.2.2.2.2.2 a ha, nm_u, e3, bd_s, gd_t, nm_u]
  exact ⟨_, _, _, rfl, rfl, (hI _ (m1.tr gb.m)).mb⟩
theorem case_spare {k N : Nat} {s u : ST} (h : Inv k s u) (hk : k < 512) (hN : 300 < N) (v : Int32) : ∃ r s' u', X6_spare N s v = some (r, s') ∧ X7_spare N u v = some (r, u') ∧ Inv (k + 1) s' u' := by
  obtain ⟨t, s1, hO, hX, hU, e, hR, hX1, hSc, hI⟩ := h.sides hk hN
  have hK := hO.2.2.1
  unfold X6_spare X7_spare
  rw [(isNumber_2 hO hX hU v).1, (isNumber_2 hO hX hU v).2, bd_s, bd_s]
  refine bc (b := inR v (tK t)) (fun q => ⟨_, _, _, by rw [ib_f q], by rw [ib_f q], h.mono⟩) fun q => ?_
  obtain ⟨a, ha, rfl⟩ := inR_t q (by omega)
  obtain ⟨r, s', u', h1, h2, h3⟩ := like_2 (N := N) hN hO hU e hR hX1 hI ha (hO.2.2.2.2.2 a ha)
  rw [ib_t q, ib_t q, inb_t (show a < 8 by omega) (by omega), gd_t, gd_t, nI_clamp (by omega), hX.2.2.2.2.2 a ha, hU.2.2.2.2.2 a ha, h1, h2, bd2_s, bd2_s]
  exact ⟨_, _, _, rfl, rfl, h3⟩
theorem case_room {k N : Nat} {s u : ST} (h : Inv k s u) (hk : k < 512) (hN : 300 < N) (v : Int32) : ∃ r s' u', X6_room N s v = some (r, s') ∧ X7_room N u v = some (r, u') ∧ Inv (k + 1) s' u' := by
  obtain ⟨t, s1, hO, hX, hU, e, hR, hX1, hSc, hI⟩ := h.sides hk hN
  have hK := hO.2.2.1
  have hp := Nat.two_pow_pos (tN t)
  unfold X6_room X7_room
  rw [(isNumber_2 hO hX hU v).1, (isNumber_2 hO hX hU v).2, bd_s, bd_s]
  refine bc (b := inR v (tK t)) (fun q => ⟨_, _, _, by rw [ib_f q], by rw [ib_f q], h.mono⟩) fun q => ?_
  obtain ⟨a, ha, rfl⟩ := inR_t q (by omega)
  obtain ⟨r, s', u', h1, h2, h3⟩ := like_2 (N := N) (x := dif (2 ^ tN t - 1) (tF t a)) hN hO hU e hR hX1 hI ha (dif_lt (by omega))
  rw [ib_t q, ib_t q, X4_all_v hX.1 hO.1.2, X7_all_v hU.1 hO.1.2, bd_s, bd_s, inb_t (show a < 8 by omega) (by omega), gd_t, gd_t, nI_clamp (by omega), hX.2.2.2.2.2 a ha, hU.2.2.2.2.2 a ha, nx_not, h1, h2, bd2_s, bd2_s]
  exact ⟨_, _, _, rfl, rfl, h3⟩
def idP (t : TB) (j : Nat) : Bool := same (up1 (tF t) j 0) (tK t) (tF t) (tK t)
theorem case_idle {k N : Nat} {s u : ST} (h : Inv k s u) (hk : k < 512) (hN : 300 < N) : ∃ r s' u', X6_idle N s = some (r, s') ∧ X7_idle N u = some (r, u') ∧ Inv (k + 1) s' u' := by
  obtain ⟨t, s1, hO, hX, hU, e, hR, hX1, hSc, hI⟩ := h.sides hk hN
  have hK := hO.2.2.1
  have hp := Nat.two_pow_pos (tN t)
  obtain ⟨u1, e2, m1, w1⟩ := keeps_v (N := N) hN hO hU
  have hU1 := hU.scM m1 (by omega)
  obtain ⟨z, a1, b, c, hz⟩ := loopInv0 (F := fun j i (z : Int32 × ST) => X6_idle_L1 N j (nI i) z.1 z.2) (Q := fun z => ∃ b c, z = (nI (bld (idP t) (tK t)), mB13 s1 b c)) (fun i z => ∃ b c, z = (nI (bld (idP t) i), mB13 s1 b c)) (tK t) (fun j i z hi ⟨b, c, hz⟩ => by
    subst hz
    show ∃ z', _ ∧ X6_idle_L1_b N (X6_idle_L1 N j) (nI i) (nI (bld (idP t) i)) (mB13 s1 b c) = _
    unfold X6_idle_L1_b
    obtain ⟨b', c', e⟩ := stays_v (N := N) (a := i) (z := 0) (s := mB13 s1 b c) (m := tK t) (B := tF t) hN hO (hX1.cg rfl rfl rfl rfl rfl rfl) hR.2.2.1 hi hp
    rw [mB13_mB] at e
    rw [show (mB13 s1 b c).1 3 = nI (tK t) from hX1.2.2.1, if_neg (by rw [nI_lep (by omega) (by omega)]; omega), show X2_stays N (mB13 s1 b c) (nI i) (0 : Int32) = some (bI (idP t i), mB13 s1 b' c') from e, bd2_s]
    refine ⟨(nI (bld (idP t) (i + 1)), mB13 s1 b' c'), ⟨b', c', rfl⟩, ?_⟩
    rw [bld_s]
    cases idP t i with
    | false => rw [ib_f rfl, nm_u, nI_1]; rfl
    | true => rw [ib_t rfl, in_val (by omega), nm_u, nm_u, nI_1]; rfl) (fun j z ⟨b, c, hz⟩ => by
    subst hz
    refine ⟨_, ?_, b, c, rfl⟩
    show X6_idle_L1_b N (X6_idle_L1 N j) (nI (tK t)) (nI (bld (idP t) (tK t))) (mB13 s1 b c) = _
    unfold X6_idle_L1_b
    rw [show (mB13 s1 b c).1 3 = nI (tK t) from hX1.2.2.1, if_pos (by rw [nI_lep (by omega) (by omega)]; exact Nat.le_refl _)]) (k := N) (by omega) (a := ((0 : Int32), s1)) ⟨s1.2.2 2, s1.2.2 3, by rw [mB13_id]; rfl⟩
  subst hz
  obtain ⟨z, a2, w, hz, hg⟩ := loopInv0 (F := fun j i (z : Int32 × ST) => X7_idle_L1 N j (nI i) z.1 z.2) (Q := fun z => ∃ w, z = (nI (bld (idP t) (tK t)), w) ∧ ScL u1 w) (fun i z => ∃ w, z = (nI (bld (idP t) i), w) ∧ ScL u1 w) (tK t) (fun j i z hi ⟨w, hz, hg⟩ => by
    subst hz
    show ∃ z', _ ∧ X7_idle_L1_b N (X7_idle_L1 N j) (nI i) (nI (bld (idP t) i)) w = _
    unfold X7_idle_L1_b
    have hw := hU1.scL hg (by omega)
    have g8 := (ScG.rf i w).put (nI 0)
    have x8 := (ScG.rf i w).xt (y := 0) hw
    rw [hw.2.2.1, if_neg (by rw [nI_lep (by omega) (by omega)]; omega), inb_t (show i < 8 by omega) (by omega), gd_t, nI_clamp (by omega), hw.2.2.2.2.2 i hi, nm_u, gd_t, nm_u, show sA w 2 (upd (w.2.1 2) i (0 : Int32)) = sA w 2 (upd (w.2.1 2) i (nI 0)) from rfl]
    generalize sA w 2 (upd (w.2.1 2) i (nI 0)) = w8 at g8 x8 ⊢
    obtain ⟨w', e, sl⟩ := are_v (N := N) hN (hO.fam (up1_lt (a := i) hO.2.2.2.2.2 hp)) x8 (m := tK t) (B := tF t) hO.2.2.2.2.2 (w1.cg ((g8.2.1 13 (by omega) (by omega)).trans (hg.2 13 (by omega))))
    have gb := (g8.scL sl).back
    rw [hw.2.2.2.2.2 i hi] at gb
    rw [show X7_areBases N w8 = some (bI (idP t i), w') from e, bd2_s]
    refine ⟨(nI (bld (idP t) (i + 1)), _), ⟨_, rfl, hg.tr gb⟩, ?_⟩
    rw [bld_s]
    cases idP t i with
    | false => rw [ib_f rfl, or_z, nm_u, gd_t, nm_u, nm_u, nI_1]; rfl
    | true => rw [ib_t rfl, in_val (by omega), nm_u, gd_t, nm_u, nm_u, nI_1]; rfl) (fun j z ⟨w, hz, hg⟩ => by
    subst hz
    refine ⟨_, ?_, w, rfl, hg⟩
    show X7_idle_L1_b N (X7_idle_L1 N j) (nI (tK t)) (nI (bld (idP t) (tK t))) w = _
    unfold X7_idle_L1_b
    rw [(hU1.scL hg (by omega)).2.2.1, if_pos (by rw [nI_lep (by omega) (by omega)]; exact Nat.le_refl _)]) (k := N) (by omega) (a := ((0 : Int32), u1)) ⟨u1, rfl, ScL.rf u1⟩
  subst hz
  have a1 : X6_idle_L1 N N (0 : Int32) (0 : Int32) s1 = some (nI (bld (idP t) (tK t)), mB13 s1 b c) := a1
  have a2 : X7_idle_L1 N N (0 : Int32) (0 : Int32) u1 = some (nI (bld (idP t) (tK t)), w) := a2
  unfold X6_idle X7_idle
  rw [e, bd_s, a1, bd_s, e2, bd_s, a2, bd_s]
  exact ⟨_, _, _, rfl, rfl, (hI _ (m1.tr hg.m)).mb⟩
