/-! PURE 31: strict, the two sides -/
theorem dif_or_two {x y e : Nat} : dif (dif x y) (2 ^ e) = dif x (y ||| 2 ^ e) := tb_ext fun i => by
  simp only [dif_tb, Nat.testBit_or]
  cases x.testBit i <;> cases y.testBit i <;> cases (2 ^ e).testBit i <;> rfl
/-- the choice that is taken -/
def Taken (t : TB) (g : Nat → Nat) : Prop := Greedy (tkA t) (tkE t) (tK t) (tN t) g
theorem Taken.lt {t : TB} {g : Nat → Nat} (h : Taken t g) : ∀ j, j < tK t → g j < tN t ∧ (us g j).testBit (g j) = false := fun j hj => by
  obtain ⟨h1, h2, -⟩ := h j hj
  unfold okv at h2
  rw [Bool.and_eq_true, Bool.and_eq_true, Bool.not_eq_true'] at h2
  exact ⟨h1, h2.2.1⟩
theorem strict_items {N : Nat} {s : ST} {t : TB} (hN : 300 < N) (hO : OKT t) (hX : XT s 1 0 t) : ∃ f, X6_strict_L1 N (0 : Int32) (sI s 10 (nI 0)) = some (sA (sI s 10 (nI (tK t))) 9 f) ∧ ∀ c, c < tK t → f c = nI (tF t c) := by
  have p8 := hO.p8
  have hK := hO.2.2.1
  obtain ⟨z, e, f, hz, hf⟩ := loopInv0 (F := fun k i (z : ST) => X6_strict_L1 k (nI i) z) (Q := fun z => ∃ f, z = sA (sI s 10 (nI (tK t))) 9 f ∧ ∀ c, c < tK t → f c = nI (tF t c)) (fun i z => ∃ f, z = sA (sI s 10 (nI i)) 9 f ∧ ∀ c, c < i → f c = nI (tF t c)) (tK t) (fun k i z hi ⟨f, hz, hf⟩ => by
    subst hz
    have hXi : XT (sA (sI s 10 (nI i)) 9 f) 1 0 t := hX.cg rfl rfl rfl rfl rfl rfl
    show ∃ z', _ ∧ X6_strict_L1_b (X6_strict_L1 k) (nI i) _ = _
    unfold X6_strict_L1_b
    rw [show (sA (sI s 10 (nI i)) 9 f).1 3 = nI (tK t) from hX.2.2.1, if_neg (by rw [nI_lep (by omega) (by omega)]; omega), inb_t (show i < 8 by omega) (by omega), gd_t, nI_clamp (by omega), show (sA (sI s 10 (nI i)) 9 f).2.1 2 i = nI (tF t i) from hX.2.2.2.2.2 i hi, ask_v (show (sA (sI s 10 (nI i)) 9 f).1 10 = nI i from rfl) (by omega), bd_s]
    refine ⟨_, ⟨upd f i (nI (tF t i)), ?_, fun c hc => ?_⟩, by simp only [nm_u, nI_1]; rfl⟩
    · refine st_eq (fun c => ?_) (fun c => ?_) (fun _ => rfl)
      · simp only [st_II, st_AI]
        by_cases c10 : c = 10
        · subst c10; rfl
        · simp [c10]
      · simp only [st_IA, st_AA]
        by_cases c9 : c = 9
        · subst c9; simp
        · simp [c9]
    · rw [upd_q]
      by_cases w : c = i
      · rw [if_pos w, w]
      · rw [if_neg w]
        exact hf c (by omega)) (fun k z ⟨f, hz, hf⟩ => by
    subst hz
    refine ⟨_, ?_, f, rfl, hf⟩
    show X6_strict_L1_b (X6_strict_L1 k) (nI (tK t)) _ = _
    unfold X6_strict_L1_b
    rw [show (sA (sI s 10 (nI (tK t))) 9 f).1 3 = nI (tK t) from hX.2.2.1, if_pos (by rw [nI_lep (by omega) (by omega)]; exact Nat.le_refl _)]) (k := N) (by omega) (a := sI s 10 (nI 0)) ⟨(sI s 10 (nI 0)).2.1 9, (sA_id (sI s 10 (nI 0)) 9).symm, fun c hc => absurd hc (Nat.not_lt_zero c)⟩
  subst hz
  exact ⟨f, e, hf⟩
theorem strict_M1 {N : Nat} {s : ST} {t : TB} {g : Nat → Nat} (hN : 300 < N) (hO : OKT t) (hU : XT s 0 0 t) (hg : Taken t g) : X7_strict_L1 N N (0 : Int32) (0 : Int32) s = some (nI (us g (tK t)), sA s 12 (fl (s.2.1 12) (fun j => nI (g j)) (tK t))) := by
  have p8 := hO.p8
  have h8 := hO.1
  have hK := hO.2.2.1
  have h := loop0 (F := fun k i (z : Int32 × ST) => X7_strict_L1 N k (nI i) z.1 z.2) (t := (nI (us g (tK t)), sA s 12 (fl (s.2.1 12) (fun j => nI (g j)) (tK t)))) (tK t) (fun i => (nI (us g i), sA s 12 (fl (s.2.1 12) (fun j => nI (g j)) i))) (fun k i hi => by
    show X7_strict_L1_b N (X7_strict_L1 N k) (nI i) (nI (us g i)) (sA s 12 (fl (s.2.1 12) (fun j => nI (g j)) i)) = X7_strict_L1 N k (nI (i + 1)) (nI (us g (i + 1))) (sA s 12 (fl (s.2.1 12) (fun j => nI (g j)) (i + 1)))
    have hUi : XT (sA s 12 (fl (s.2.1 12) (fun j => nI (g j)) i)) 0 0 t := hU.cg rfl rfl rfl rfl rfl rfl
    have fu := fl_u (s.2.1 12) (fun j => nI (g j)) i
    have ea : (sA s 12 (fl (s.2.1 12) (fun j => nI (g j)) i)).2.1 12 = fl (s.2.1 12) (fun j => nI (g j)) i := sA_at
    have es : ∀ f, sA (sA s 12 (fl (s.2.1 12) (fun j => nI (g j)) i)) 12 f = sA s 12 f := fun f => sA_sA s 12 _ f
    generalize sA s 12 (fl (s.2.1 12) (fun j => nI (g j)) i) = z at hUi ea es ⊢
    obtain ⟨gc, gf⟩ := hg i hi
    have hg' : ∀ j, j < i → g j < tN t ∧ IsFst (okv (tkA t) (tkE t) j (us g j)) (g j) := fun j hj => hg j (by omega)
    have ul := us_lt (fun j hj => (hg' j hj).1)
    have upc := us_pc h8.2 hg'
    have fi := hO.2.2.2.2.2 i hi
    have inner := loopFirst (F := fun k j => X7_strict_L2 N z (nI i) (nI (us g i)) k (nI j)) (m := g i) (okv (tkA t) (tkE t) i (us g i)) (fun j => nI j) gf.1 gf.2 (fun k j hj => by
      show X7_strict_L2_b N z (nI i) (nI (us g i)) (X7_strict_L2 N z (nI i) (nI (us g i)) k) (nI j) = _
      unfold X7_strict_L2_b
      rw [inb_t (show i < 8 by omega) (by omega), gd_t, nI_clamp (by omega), hUi.2.2.2.2.2 i hi, X7_has_v (by omega) (by omega), bd_s, tk_okv hO hi (show j < tN t by omega) upc]
      cases q1 : (tF t i).testBit j with
      | false => rw [ib_f rfl, nm_u, nI_1]; rfl
      | true =>
        rw [ib_t rfl, X7_has_v (by omega) (by omega), bd_s]
        cases q2 : (us g i).testBit j with
        | true => rw [ib_t rfl, nm_u, nI_1]; rfl
        | false =>
          have ulj := or_two_lt ul (show j < tN t by omega)
          rw [ib_f rfl, in_val (by omega), nI_1, canTake_v hN hO hUi (by omega) (by omega), bd_s]
          cases mt (mk (sw (tF t) (tK t)) (us g i ||| 2 ^ j)) (tN t) (hib (2 ^ tK t - 1) (i + 1)) with
          | false => rw [ib_f rfl, nm_u, nI_1]; rfl
          | true => rw [ib_t rfl]; rfl) (k := N) (by omega)
    unfold X7_strict_L1_b
    rw [hUi.2.2.1, if_neg (by rw [nI_lep (by omega) (by omega)]; omega), l0, inner, bd_s, in_val (by omega), nm_u, inb_t (show i < 8 by omega) (by omega), gd_t, nm_u, nm_u, nI_1, nI_clamp (show i < 2 ^ 31 by omega), ea, es, fu, us_s]) (fun k => by
    show X7_strict_L1_b N (X7_strict_L1 N k) (nI (tK t)) (nI (us g (tK t))) (sA s 12 (fl (s.2.1 12) (fun j => nI (g j)) (tK t))) = _
    unfold X7_strict_L1_b
    rw [show (sA s 12 (fl (s.2.1 12) (fun j => nI (g j)) (tK t))).1 2 = nI (tK t) from hU.2.2.1, if_pos (by rw [nI_lep (by omega) (by omega)]; exact Nat.le_refl _)]) (k := N) (by omega)
  rw [fl_0, sA_id] at h
  exact h
theorem X7_strict_L3_v {N : Nat} {s : ST} (hN : 300 < N) : X7_strict_L3 N (0 : Int32) s = some (sA s 0 (fl (s.2.1 0) (fun _ => nI 0) 8)) := by
  have h := loop0 (F := fun k i (z : ST) => X7_strict_L3 k (nI i) z) (t := sA s 0 (fl (s.2.1 0) (fun _ => nI 0) 8)) 8 (fun i => sA s 0 (fl (s.2.1 0) (fun _ => nI 0) i)) (fun k i hi => by
    show X7_strict_L3_b (X7_strict_L3 k) (nI i) _ = _
    unfold X7_strict_L3_b
    rw [if_neg (by rw [l8, nI_lep (by omega) (by omega)]; omega), inb_t (show i < 8 by omega) (by omega), gd_t]
    simp only [nm_u, nI_clamp (show i < 2 ^ 31 by omega), nI_1, st_AA, if_true, sA_sA]
    rw [← fl_u (s.2.1 0) (fun _ => nI 0) i]
    rfl) (fun k => by
    show X7_strict_L3_b (X7_strict_L3 k) (nI 8) _ = _
    unfold X7_strict_L3_b
    rw [if_pos (by rw [l8, nI_lep (by omega) (by omega)]; exact Nat.le_refl _)]) (k := N) (by omega)
  rw [fl_0, sA_id] at h
  exact h
theorem X4_straighten_a19_L1_v {N : Nat} {s : ST} (hN : 300 < N) : X4_straighten_a19_L1 N (0 : Int32) s = some (sA s 0 (fl (s.2.1 0) (fun _ => nI 0) 8)) := by
  have h := loop0 (F := fun k i (z : ST) => X4_straighten_a19_L1 k (nI i) z) (t := sA s 0 (fl (s.2.1 0) (fun _ => nI 0) 8)) 8 (fun i => sA s 0 (fl (s.2.1 0) (fun _ => nI 0) i)) (fun k i hi => by
    show X4_straighten_a19_L1_b (X4_straighten_a19_L1 k) (nI i) _ = _
    unfold X4_straighten_a19_L1_b
    rw [if_neg (by rw [l8, nI_lep (by omega) (by omega)]; omega), inb_t (show i < 8 by omega) (by omega), gd_t]
    simp only [nm_u, nI_clamp (show i < 2 ^ 31 by omega), nI_1, st_AA, if_true, sA_sA]
    rw [← fl_u (s.2.1 0) (fun _ => nI 0) i]
    rfl) (fun k => by
    show X4_straighten_a19_L1_b (X4_straighten_a19_L1 k) (nI 8) _ = _
    unfold X4_straighten_a19_L1_b
    rw [if_pos (by rw [l8, nI_lep (by omega) (by omega)]; exact Nat.le_refl _)]) (k := N) (by omega)
  rw [fl_0, sA_id] at h
  exact h
theorem strict_M4 {N K n : Nat} {s : ST} {F g : Nat → Nat} (hN : 300 < N) (hK : K ≤ 8) (h8 : n ≤ 8) (e2 : s.1 2 = nI K) (eF : ∀ j, j < K → s.2.1 2 j = nI (F j)) (eg : ∀ j, j < K → s.2.1 12 j = nI (g j)) (hF : ∀ j, j < K → F j < 2 ^ n) (hg : ∀ j, j < K → g j < n) (e0 : ∀ i, i < 8 → s.2.1 0 i = nI 0) : ∃ f, X7_strict_L4 N (0 : Int32) (0 : Int32) s = some (nI (ctr (fun j => pc (dif (F j) (2 ^ g j))) K), sA s 0 f) ∧ ∀ i, i < 8 → f i = nI (rst F g K i) := by
  have p8 := pow8 h8
  obtain ⟨z, e, f, hz, hf⟩ := loopInv0 (F := fun k i (z : Int32 × ST) => X7_strict_L4 k (nI i) z.1 z.2) (Q := fun z => ∃ f, z = (nI (ctr (fun j => pc (dif (F j) (2 ^ g j))) K), sA s 0 f) ∧ ∀ i, i < 8 → f i = nI (rst F g K i)) (fun k z => ∃ f, z = (nI (ctr (fun j => pc (dif (F j) (2 ^ g j))) k), sA s 0 f) ∧ ∀ i, i < 8 → f i = nI (rst F g k i)) K (fun k i z hi ⟨f, hz, hf⟩ => by
    subst hz
    have Fi := hF i hi
    have gi := hg i hi
    have dl := dif_lt (b := 2 ^ g i) Fi
    show ∃ z', _ ∧ X7_strict_L4_b (X7_strict_L4 k) (nI i) (nI (ctr (fun j => pc (dif (F j) (2 ^ g j))) i)) (sA s 0 f) = _
    unfold X7_strict_L4_b
    rw [show (sA s 0 f).1 2 = nI K from e2, if_neg (by rw [nI_lep (by omega) (by omega)]; omega), inb_t (show i < 8 by omega) (by omega), gd_t, gd_t, gd_t, nI_clamp (show i < 2 ^ 31 by omega), show (sA s 0 f).2.1 12 i = nI (g i) from eg i hi, show (sA s 0 f).2.1 2 i = nI (F i) from eF i hi, inb_t (show g i < 8 by omega) (by omega), gd_t, no_val (by omega), nI_clamp (show g i < 2 ^ 31 by omega), nm_u, gd_t, sA_sA]
    rw [show (sA s 0 (upd ((sA s 0 f).2.1 0) (g i) (nI (dif (F i) (2 ^ g i))))).2.1 12 i = nI (g i) from eg i hi, inb_t (show g i < 8 by omega) (by omega), gd_t, nI_clamp (show g i < 2 ^ 31 by omega), sA_at, sA_at, upd_q, if_pos rfl, J6_bit_all _ (by omega), bd_s, nI_add]
    simp only [nm_u, nI_1]
    refine ⟨(nI (ctr (fun j => pc (dif (F j) (2 ^ g j))) (i + 1)), sA s 0 (upd f (g i) (nI (dif (F i) (2 ^ g i))))), ⟨_, rfl, fun j hj => ?_⟩, rfl⟩
    rw [rst_s]
    exact up1_v (N := 8) hf j hj) (fun k z ⟨f, hz, hf⟩ => by
    subst hz
    refine ⟨_, ?_, f, rfl, hf⟩
    show X7_strict_L4_b (X7_strict_L4 k) (nI K) (nI (ctr (fun j => pc (dif (F j) (2 ^ g j))) K)) (sA s 0 f) = _
    unfold X7_strict_L4_b
    rw [show (sA s 0 f).1 2 = nI K from e2, if_pos (by rw [nI_lep (by omega) (by omega)]; exact Nat.le_refl _)]) (k := N) (by omega) (a := ((0 : Int32), s)) ⟨s.2.1 0, by rw [sA_id]; rfl, e0⟩
  subst hz
  exact ⟨f, e, hf⟩
theorem strict_X2 {N K n : Nat} {s : ST} {F g : Nat → Nat} (hN : 300 < N) (hK : K ≤ 8) (h8 : n ≤ 8) (e3 : s.1 3 = nI K) (eT : s.1 2 = nI (2 ^ n - 1)) (eF : ∀ j, j < K → s.2.1 2 j = nI (F j)) (eg : ∀ j, j < K → s.2.1 8 j = nI (g j)) (hF : ∀ j, j < K → F j < 2 ^ n) (hg : ∀ j, j < K → g j < n) (e0 : ∀ i, i < 8 → s.2.1 0 i = nI 0) : ∃ f, X4_straighten_a19_L2 N (0 : Int32) s = some (sI (sA s 0 f) 2 (nI (dif (2 ^ n - 1) (us g K)))) ∧ ∀ i, i < 8 → f i = nI (rst F g K i) := by
  have p8 := pow8 h8
  have hp := Nat.two_pow_pos n
  obtain ⟨z, e, f, hz, hf⟩ := loopInv0 (F := fun k i (z : ST) => X4_straighten_a19_L2 k (nI i) z) (Q := fun z => ∃ f, z = sI (sA s 0 f) 2 (nI (dif (2 ^ n - 1) (us g K))) ∧ ∀ i, i < 8 → f i = nI (rst F g K i)) (fun k z => ∃ f, z = sI (sA s 0 f) 2 (nI (dif (2 ^ n - 1) (us g k))) ∧ ∀ i, i < 8 → f i = nI (rst F g k i)) K (fun k i z hi ⟨f, hz, hf⟩ => by
    subst hz
    have Fi := hF i hi
    have gi := hg i hi
    show ∃ z', _ ∧ X4_straighten_a19_L2_b (X4_straighten_a19_L2 k) (nI i) (sI (sA s 0 f) 2 (nI (dif (2 ^ n - 1) (us g i)))) = _
    unfold X4_straighten_a19_L2_b
    rw [show (sI (sA s 0 f) 2 (nI (dif (2 ^ n - 1) (us g i)))).1 3 = nI K from e3, if_neg (by rw [nI_lep (by omega) (by omega)]; omega), inb_t (show i < 8 by omega) (by omega), gd_t, nI_clamp (show i < 2 ^ 31 by omega), show (sI (sA s 0 f) 2 (nI (dif (2 ^ n - 1) (us g i)))).2.1 8 i = nI (g i) from eg i hi, show (sI (sA s 0 f) 2 (nI (dif (2 ^ n - 1) (us g i)))).2.1 2 i = nI (F i) from eF i hi, nm_u, gd_t, gd_t, inb_t (show g i < 8 by omega) (by omega), gd_t, no_val (by omega), nI_clamp (show g i < 2 ^ 31 by omega), nm_u, nm_u, nm_u, nI_1]
    rw [show (sA (sI (sA s 0 f) 2 (nI (dif (2 ^ n - 1) (us g i)))) 0 (upd ((sI (sA s 0 f) 2 (nI (dif (2 ^ n - 1) (us g i)))).2.1 0) (g i) (nI (dif (F i) (2 ^ g i))))).1 2 = nI (dif (2 ^ n - 1) (us g i)) from rfl, no_val (by omega), dif_or_two, sIA_sIA]
    refine ⟨_, ⟨upd f (g i) (nI (dif (F i) (2 ^ g i))), rfl, fun j hj => ?_⟩, rfl⟩
    rw [rst_s]
    exact up1_v (N := 8) hf j hj) (fun k z ⟨f, hz, hf⟩ => by
    subst hz
    refine ⟨_, ?_, f, rfl, hf⟩
    show X4_straighten_a19_L2_b (X4_straighten_a19_L2 k) (nI K) (sI (sA s 0 f) 2 (nI (dif (2 ^ n - 1) (us g K)))) = _
    unfold X4_straighten_a19_L2_b
    rw [show (sI (sA s 0 f) 2 (nI (dif (2 ^ n - 1) (us g K)))).1 3 = nI K from e3, if_pos (by rw [nI_lep (by omega) (by omega)]; exact Nat.le_refl _)]) (k := N) (by omega) (a := s) ⟨s.2.1 0, by
      rw [sA_id, show dif (2 ^ n - 1) (us g 0) = 2 ^ n - 1 from tb_ext fun i => by rw [dif_tb, show us g 0 = 0 from rfl, Nat.zero_testBit]; simp, ← eT, sI_id], e0⟩
  subst hz
  exact ⟨f, e, hf⟩
def tbS (t : TB) (g : Nat → Nat) : TB := (tN t, dif (2 ^ tN t - 1) (us g (tK t)), tK t, rst (tF t) g (tK t), tW t, tF t)
theorem case_strict {k N : Nat} {s u : ST} (h : Inv k s u) (hk : k < 512) (hN : 300 < N) : ∃ r s' u', X6_strict N s = some (r, s') ∧ X7_strict N u = some (r, u') ∧ Inv (k + 1) s' u' := by
  obtain ⟨t, hO, hX, hU⟩ := h.tab
  have p8 := hO.p8
  have h8 := hO.1
  have hK := hO.2.2.1
  have hp := Nat.two_pow_pos (tN t)
  obtain ⟨f, e1, hf⟩ := strict_items (N := N) hN hO hX
  obtain ⟨s1, e2, p1, p2, p3, p4⟩ := isMade_v (N := N) (m := tK t) (c := tN t) (s := sA (sI s 10 (nI (tK t))) 9 f) (A := tkA t) (E := tkE t) hN h8.2 hK rfl (fun c hc => ⟨by rw [st_AA, if_pos rfl, hf c hc, tk_A hO hc], by rw [tk_A hO hc]; have := hO.2.2.2.2.2 c hc; omega⟩) (tk_ends hO)
  have sx : ScX s s1 := ⟨fun c h9 h10 => by rw [p1, st_AI, st_II, if_neg h10.1], fun c hc => by rw [p2 c (by omega) (by omega), st_AA, if_neg (by omega)]; rfl⟩
  have k0 : X7_canTake N u (0 : Int32) (0 : Int32) = some (bI (tkE t 0)) := by
    rw [tk_E0]
    exact canTake_v (a := 0) (u := 0) hN hO hU (Nat.zero_le _) (by omega)
  have e1 : X6_strict_L1 N (0 : Int32) (sI s 10 (0 : Int32)) = some (sA (sI s 10 (nI (tK t))) 9 f) := e1
  unfold X6_strict X7_strict X0_begin
  rw [k0, nm_u, bd_s, bd_s, e1, bd_s, show (sA (sI s 10 (nI (tK t))) 9 f).1 1 = nI (tN t) from hX.1, e2, bd2_s]
  refine bc (b := tkE t 0) (fun w => ⟨_, _, _, by rw [ib_f w], by rw [ib_f w], ?_⟩) fun w => ?_
  · refine h.ask sx (ScM.rf u) fun t ch a1 a2 a3 a4 a5 => ?_
    unfold RKc RanksOK MB10 at a3 ⊢
    rw [p1, p2 6 (by omega) (by omega), p2 7 (by omega) (by omega), p3]
    exact a3
  rw [ib_t w, ib_t w]
  obtain ⟨g, hg, hc⟩ := p4 w
  have hT : Taken t g := hg
  have hX1 : XT s1 1 0 t := hX.scX sx (by omega) (by omega)
  have ol := hT.lt
  -- the class
  obtain ⟨fX, x1, x2⟩ := strict_X2 (N := N) (K := tK t) (n := tN t) (F := tF t) (g := g) (s := sI (sA s1 0 (fl (s1.2.1 0) (fun _ => nI 0) 8)) 2 (nI (2 ^ tN t - 1))) hN hK h8.2 hX1.2.2.1 rfl hX1.2.2.2.2.2 hc hO.2.2.2.2.2 (fun j hj => (ol j hj).1) (fun i hi => by
    show fl (s1.2.1 0) (fun _ => nI 0) 8 i = _
    rw [fl_in hi])
  have eS : X4_straighten_a19 N s1 = some (sI (sI (sA (sI (sA s1 0 (fl (s1.2.1 0) (fun _ => nI 0) 8)) 2 (nI (2 ^ tN t - 1))) 0 fX) 2 (nI (dif (2 ^ tN t - 1) (us g (tK t))))) 4 (s.1 4 + nI 1)) := by
    unfold X4_straighten_a19
    rw [X4_straighten_a19_L1_v hN, bd_s, X4_all_v (show (sA s1 0 (fl (s1.2.1 0) (fun _ => nI 0) 8)).1 1 = nI (tN t) from hX1.1) h8.2, bd_s, nm_u, x1, bd_s, nm_u]
    rw [← sx.1 4 (by omega) (by omega)]
    rfl
  rw [eS, bd_s, sIA_sIA]
  -- the reference
  have hU1 : XT (sA u 12 (fl (u.2.1 12) (fun j => nI (g j)) (tK t))) 0 0 t := hU.cg rfl rfl rfl rfl rfl rfl
  rw [strict_M1 hN hO hU hT, bd_s]
  dsimp only
  rw [X7_strict_L3_v hN, bd_s]
  obtain ⟨fM, y1, y2⟩ := strict_M4 (N := N) (K := tK t) (n := tN t) (F := tF t) (g := g) (s := sA (sA u 12 (fl (u.2.1 12) (fun j => nI (g j)) (tK t))) 0 (fl ((sA u 12 (fl (u.2.1 12) (fun j => nI (g j)) (tK t))).2.1 0) (fun _ => nI 0) 8)) hN hK h8.2 hU.2.2.1 hU.2.2.2.2.2 (fun j hj => by
    show fl (u.2.1 12) (fun j => nI (g j)) (tK t) j = _
    rw [fl_in hj]) hO.2.2.2.2.2 (fun j hj => (ol j hj).1) (fun i hi => by
    rw [sA_at, fl_in hi])
  rw [y1, bd_s]
  dsimp only
  rw [sA_sA, X7_all_v (show (sA (sA u 12 (fl (u.2.1 12) (fun j => nI (g j)) (tK t))) 0 fM).1 0 = nI (tN t) from hU.1) h8.2, bd_s, nx_not, nm_u]
  -- the new table
  have hO' : OKT (tbS t g) := ⟨h8, dif_lt (by show 2 ^ tN t - 1 < 2 ^ tN t; omega), hK, fun i _ => rst_lt hO.2.2.2.2.2 i, hO.2.2.2.2.1, hO.2.2.2.2.2⟩
  have hX' : XT (sI (sI (sA s1 0 fX) 2 (nI (dif (2 ^ tN t - 1) (us g (tK t))))) 4 (s.1 4 + nI 1)) 1 0 (tbS t g) := ⟨hX1.1, rfl, hX1.2.2.1, x2, hX1.2.2.2.2.1, hX1.2.2.2.2.2⟩
  have hU' : XT (sI (sA (sA u 12 (fl (u.2.1 12) (fun j => nI (g j)) (tK t))) 0 fM) 1 (nI (dif (2 ^ tN t - 1) (us g (tK t))))) 0 0 (tbS t g) := ⟨hU.1, rfl, hU.2.2.1, y2, hU.2.2.2.2.1, hU.2.2.2.2.2⟩
  rw [countRoads_X (by omega) hO' hX', bd_s, show ctr (fun i => pc (tR (tbS t g) i)) (tN (tbS t g)) = ctr (fun j => pc (dif (tF t j) (2 ^ g j))) (tK t) from rst_sum ol]
  refine ⟨_, _, _, rfl, rfl, h.mut (d := 1) hk hO' hX' hU' ⟨fun c hc => ?_, fun c hc => ?_⟩ ⟨rfl, rfl, rfl, rfl⟩ (by omega) (by omega) rfl (Or.inl ?_) ?_⟩
  · rw [sI_ne (by omega), sI_ne (by omega)]
    exact sx.1 c (by omega) (by omega)
  · show (sA s1 0 fX).2.1 c = _
    rw [sA_ne (by omega)]
    exact sx.2 c (by omega)
  · show s1.1 9 = _
    rw [p1]; rfl
  · exact h.tape.cg (sx.1 11 (by omega) (by omega)) (sx.2 15 (by omega)) rfl rfl
