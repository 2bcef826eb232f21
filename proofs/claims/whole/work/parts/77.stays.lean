/-! PURE 32: do the bases stay: the table of matched sets against the bases laid out -/
def same (A : Nat → Nat) (k : Nat) (B : Nat → Nat) (m : Nat) : Bool := (List.range 256).all fun x => mt A k x == mt B m x
theorem same_iff {A B : Nat → Nat} {k m : Nat} : same A k B m = true ↔ ∀ x, x < 256 → mt A k x = mt B m x := by
  unfold same
  rw [List.all_eq_true]
  exact ⟨fun h x hx => beq_iff_eq.mp (h x (List.mem_range.mpr hx)), fun h x hx => beq_iff_eq.mpr (h x (List.mem_range.mp hx))⟩
theorem mt_out {A : Nat → Nat} {k n x : Nat} (hA : ∀ j, j < k → A j < 2 ^ n) (hx : x < 256) (ho : ¬ x < 2 ^ n) : mt A k x = false := by
  cases q : mt A k x with
  | false => rfl
  | true =>
    exfalso
    have h := mt_hall q
    have hi : ∃ i, n ≤ i ∧ x.testBit i = true := by
      rcases Classical.em (∃ i, n ≤ i ∧ x.testBit i = true) with g | g
      · exact g
      · refine absurd (lt_of_tb (n := n) fun i hi => ?_) ho
        cases w : x.testBit i with
        | false => rfl
        | true => exact absurd ⟨i, hi, w⟩ g
    obtain ⟨i, h1, h2⟩ := hi
    have i8 : i < 8 := tb_lt (n := 8) hx h2
    have c := h (2 ^ i) (sub_two h2)
    rw [pc_two i i8] at c
    have z : ∀ {m : Nat}, m ≤ k → cv A m (2 ^ i) = 0 := by
      intro m
      induction m with
      | zero => intro _; rfl
      | succ m ih =>
        intro hm
        rw [show cv A (m + 1) (2 ^ i) = cv A m (2 ^ i) + (if A m &&& 2 ^ i = 0 then 0 else 1) from rfl, ih (by omega), if_pos (and_two (tb_big (hA m (by omega)) h1))]
    have := z (Nat.le_refl k)
    omega
theorem fr_mt {A : Nat → Nat} {k x : Nat} (hx : x < 256) : isFr (gr A k) x = mt A k x := by
  rw [Bool.eq_iff_iff, isFr_iff, gr_free hx, mt_iff hx]
theorem same_one {n : Nat} {r q : Nat → Nat} (hr : RK n r) (hq : RK n q) (h : ∀ x, x < 2 ^ n → isFr r x = isFr q x) : r (2 ^ n - 1) ≤ q (2 ^ n - 1) := by
  have hp := Nat.two_pow_pos n
  obtain ⟨y, y1, y2, y3, y4⟩ := hr.ext (z := 2 ^ n - 1) (by omega) (sub_0 _) (by rw [hr.2.1, pc_0])
  have yl : y < 2 ^ n := sub_lt y2 (by omega)
  have f : isFr q y = true := by rw [← h y yl]; exact isFr_t y3
  have := isFr_iff.mp f
  have m := hq.mono (y := 2 ^ n - 1) (by omega) y2
  omega
theorem same_fr {n : Nat} {r q : Nat → Nat} (hr : RK n r) (hq : RK n q) (h : ∀ x, x < 2 ^ n → isBs n r x = isBs n q x) {x : Nat} (hx : x < 2 ^ n) (hf : isFr r x = true) : isFr q x = true := by
  have hp := Nat.two_pow_pos n
  obtain ⟨b, b1, b2, b3, -⟩ := hr.base (z := 2 ^ n - 1) (by omega) (fun i hi => by rw [tb_all]; exact decide_eq_true (tb_lt hx hi)) (isFr_iff.mp hf) rfl
  rw [h b b1] at b2
  exact isFr_t (hq.part b1 b3 (isBs_iff.mp b2).1)
theorem same_bases {n k m : Nat} {A B : Nat → Nat} (h8 : n ≤ 8) (hA : ∀ j, j < k → A j < 2 ^ n) (hB : ∀ j, j < m → B j < 2 ^ n) : (∀ x, x < 2 ^ n → isBs n (gr A k) x = isBs n (gr B m) x) ↔ ∀ x, x < 256 → mt A k x = mt B m x := by
  have p8 := pow8 h8
  have ra := gr_rk A k h8
  have rb := gr_rk B m h8
  constructor
  · intro h x hx
    by_cases q : x < 2 ^ n
    · rw [← fr_mt hx, ← fr_mt hx, Bool.eq_iff_iff]
      exact ⟨same_fr ra rb h q, same_fr rb ra (fun y hy => (h y hy).symm) q⟩
    · rw [mt_out hA hx q, mt_out hB hx q]
  · intro h x hx
    have hf : ∀ y, y < 2 ^ n → isFr (gr A k) y = isFr (gr B m) y := fun y hy => by rw [fr_mt (by omega), fr_mt (by omega)]; exact h y (by omega)
    have e := Nat.le_antisymm (same_one ra rb hf) (same_one rb ra fun y hy => (hf y hy).symm)
    unfold isBs
    rw [hf x hx, e]
theorem lb_ext {a b : Int64} (h : ∀ p, p < 64 → lb a p = lb b p) : a = b := by
  apply Int64.toBitVec_inj.mp
  apply BitVec.eq_of_getLsbD_eq
  intro i hi
  exact h i hi
theorem isLike_v {N k m : Nat} {s : ST} {A B : Nat → Nat} (hN : 300 < N) (h1 : MB13 s A k) (h2 : MB10 s B m) : X1_isLike_13_a10 N s = some (bI (same A k B m)) := by
  have h := loopSearch (F := fun k i => X1_isLike_13_a10_L1 s k (nI i)) 4 (fun i => !decide (s.2.2 2 i = s.2.2 0 i)) (fun _ => Sum.inl (0 : Int32)) (Sum.inr ()) (fun k i hi => by
    show X1_isLike_13_a10_L1_b s (X1_isLike_13_a10_L1 s k) (nI i) = _
    unfold X1_isLike_13_a10_L1_b
    rw [if_neg (by rw [l4, nI_lep (by omega) (by omega)]; omega), inb_t (show i < 4 by omega) (by omega), gd_t, gd_t, nI_clamp (by omega)]
    by_cases q : s.2.2 2 i = s.2.2 0 i
    · rw [if_pos ((lg_cmp_eq _ _).mpr q), decide_eq_true q, nm_u, nI_1]; rfl
    · rw [if_neg (fun z => q ((lg_cmp_eq _ _).mp z)), decide_eq_false q]; rfl) (fun k => by
    show X1_isLike_13_a10_L1_b s (X1_isLike_13_a10_L1 s k) (nI 4) = _
    unfold X1_isLike_13_a10_L1_b
    rw [if_pos (by rw [l4, nI_lep (by omega) (by omega)]; exact Nat.le_refl _)]) (k := N) (by omega)
  unfold X1_isLike_13_a10
  rw [l0]
  rcases h with ⟨i, i1, i2, -, e⟩ | ⟨i1, e⟩
  · rw [e, bd_s]
    have : same A k B m = false := by
      cases q : same A k B m with
      | false => rfl
      | true =>
        exfalso
        have q := same_iff.mp q
        have : s.2.2 2 i = s.2.2 0 i := lb_ext fun p hp => by
          have a := h1 (64 * i + p) (by omega)
          have b := h2 (64 * i + p) (by omega)
          unfold BT at a b
          rw [show (64 * i + p) / 64 = i by omega, show (64 * i + p) % 64 = p by omega] at a b
          rw [a, b]
          exact q _ (by omega)
        rw [decide_eq_true this] at i2
        exact absurd i2 (by decide)
    rw [this]; rfl
  · rw [e, bd_s]
    have : same A k B m = true := same_iff.mpr fun x hx => by
      have a := h1 x hx
      have b := h2 x hx
      have c := i1 (x / 64) (by omega)
      have c : s.2.2 2 (x / 64) = s.2.2 0 (x / 64) := by simpa using c
      unfold BT at a b
      rw [← a, ← b, c]
    rw [this]; rfl
theorem stays_v {N a z m : Nat} {s : ST} {t : TB} {B : Nat → Nat} (hN : 300 < N) (hO : OKT t) (hX : XT s 1 0 t) (hM : MB10 s B m) (ha : a < tK t) (hz : z < 2 ^ tN t) : ∃ b c, X2_stays N s (nI a) (nI z) = some (bI (same (up1 (tF t) a z) (tK t) B m), mB13 s b c) := by
  have p8 := hO.p8
  have hK := hO.2.2.1
  obtain ⟨a0, b0, e0, m0⟩ := X1_begin_13_m (n := N) (by omega) s (up1 (tF t) a z)
  obtain ⟨s', e, ⟨b, c, hs⟩, hm⟩ := loopInv0 (F := fun j i (w : ST) => X2_stays_L1 N (nI a) (nI z) j (nI i) w) (Q := fun w => (∃ b c, w = mB13 s b c) ∧ MB13 w (up1 (tF t) a z) (tK t)) (fun i w => (∃ b c, w = mB13 s b c) ∧ MB13 w (up1 (tF t) a z) i) (tK t) (fun j i w hi ⟨⟨b, c, hw⟩, hm⟩ => by
    subst hw
    show ∃ w', _ ∧ X2_stays_L1_b N (nI a) (nI z) (X2_stays_L1 N (nI a) (nI z) j) (nI i) _ = _
    unfold X2_stays_L1_b
    have fi := hO.2.2.2.2.2 i hi
    rw [mB13_1, hX.2.2.1, if_neg (by rw [nI_lep (by omega) (by omega)]; omega)]
    by_cases q : i = a
    · subst q
      obtain ⟨b', c', e, m⟩ := X1_join_13_v (n := N) (s := mB13 s b c) (z := z) (by omega) hm (show z = up1 (tF t) i z i from (if_pos rfl).symm) (by omega)
      refine ⟨_, ⟨⟨b', c', ?_⟩, m⟩, ?_⟩
      · rw [mB13_mB]
      · rw [if_pos rfl, e, bd_s, nm_u, nI_1]
    · obtain ⟨b', c', e, m⟩ := X1_join_13_v (n := N) (s := mB13 s b c) (z := tF t i) (by omega) hm (show tF t i = up1 (tF t) a z i from (if_neg q).symm) (by omega)
      refine ⟨_, ⟨⟨b', c', ?_⟩, m⟩, ?_⟩
      · rw [mB13_mB]
      · rw [if_neg (by rw [nI_inj (by omega) (by omega)]; exact q), inb_t (show i < 8 by omega) (by omega), gd_t, mB13_2, nI_clamp (by omega), hX.2.2.2.2.2 i hi, e, bd_s, nm_u, nI_1]) (fun j w ⟨⟨b, c, hw⟩, hm⟩ => by
    subst hw
    refine ⟨_, ?_, ⟨b, c, rfl⟩, hm⟩
    show X2_stays_L1_b N (nI a) (nI z) (X2_stays_L1 N (nI a) (nI z) j) (nI (tK t)) _ = _
    unfold X2_stays_L1_b
    rw [mB13_1, hX.2.2.1, if_pos (by rw [nI_lep (by omega) (by omega)]; exact Nat.le_refl _)]) (k := N) (by omega) (a := mB13 s a0 b0) ⟨⟨a0, b0, rfl⟩, m0⟩
  subst hs
  refine ⟨b, c, ?_⟩
  unfold X2_stays
  rw [e0, bd_s, l0, e, bd_s, isLike_v hN hm (show MB10 (mB13 s b c) B m from hM), bd_s, gd_bz]
/-- what the bases were -/
def WasB (u : ST) (n : Nat) (B : Nat → Nat) (m : Nat) : Prop := ∀ x, x < 2 ^ n → u.2.1 13 x = bI (isBs n (gr B m) x)
theorem bI_eq (a b : Bool) : (bI a = bI b) = (a = b) := by cases a <;> cases b <;> simp [bI]
theorem keeps_v {N : Nat} {u : ST} {t : TB} (hN : 300 < N) (hO : OKT t) (hU : XT u 0 0 t) : ∃ u', X7_keepsBases N u = some u' ∧ ScM u u' ∧ WasB u' (tN t) (tF t) (tK t) := by
  have h8 := hO.1.2
  have p8 := hO.p8
  have hp := Nat.two_pow_pos (tN t)
  obtain ⟨v, e1, s1, l1⟩ := X7_lay_w (w := 1) hN hU hO (by omega)
  rw [rw4_1] at l1
  have nv : v.1 0 = nI (tN t) := (hU.scL s1 (by omega)).1
  have h := loop0 (F := fun j i (z : ST) => X7_keepsBases_L1 j (nI i) z) (t := sA v 13 (fl (v.2.1 13) (fun x => bI (isBs (tN t) (gr (tF t) (tK t)) x)) (2 ^ tN t))) (2 ^ tN t) (fun i => sA v 13 (fl (v.2.1 13) (fun x => bI (isBs (tN t) (gr (tF t) (tK t)) x)) i)) (fun j i hi => by
    show X7_keepsBases_L1_b (X7_keepsBases_L1 j) (nI i) _ = _
    unfold X7_keepsBases_L1_b
    rw [X7_all_v (show (sA v 13 _).1 0 = nI (tN t) from nv) h8, bd_s, if_neg (by rw [nI_ltp (by omega) (by omega)]; omega), inb_t (show i < 256 by omega) (by omega), gd_t, gd_t, nI_clamp (by omega), show (sA v 13 (fl (v.2.1 13) (fun x => bI (isBs (tN t) (gr (tF t) (tK t)) x)) i)).2.1 9 i = bI (isBs (tN t) (gr (tF t) (tK t)) i) from (l1 i hi).2.2, gd_bz]
    simp only [nm_u, nI_1, st_AA, if_true, sA_sA]
    rw [fl_u (v.2.1 13) (fun x => bI (isBs (tN t) (gr (tF t) (tK t)) x)) i]) (fun j => by
    show X7_keepsBases_L1_b (X7_keepsBases_L1 j) (nI (2 ^ tN t)) _ = _
    unfold X7_keepsBases_L1_b
    rw [X7_all_v (show (sA v 13 _).1 0 = nI (tN t) from nv) h8, bd_s, if_pos (by rw [nI_ltp (by omega) (by omega)]; omega)]) (k := N) (by omega)
  rw [fl_0, sA_id] at h
  unfold X7_keepsBases
  rw [show (1 : Int32) = nI 1 from rfl, e1, bd_s, l0, h, bd_s]
  refine ⟨_, rfl, s1.m.tr (ScM.sA (by omega) (by omega)), fun x hx => ?_⟩
  rw [sA_at, fl_in hx]
theorem are_v {N m : Nat} {u : ST} {t : TB} {B : Nat → Nat} (hN : 300 < N) (hO : OKT t) (hU : XT u 0 0 t) (hB : ∀ j, j < m → B j < 2 ^ tN t) (hW : WasB u (tN t) B m) : ∃ u', X7_areBases N u = some (bI (same (tF t) (tK t) B m), u') ∧ ScL u u' := by
  have h8 := hO.1.2
  have p8 := hO.p8
  have hp := Nat.two_pow_pos (tN t)
  obtain ⟨v, e1, s1, l1⟩ := X7_lay_w (w := 1) hN hU hO (by omega)
  rw [rw4_1] at l1
  have nv : v.1 0 = nI (tN t) := (hU.scL s1 (by omega)).1
  refine ⟨v, ?_, s1⟩
  have h := loopSearch (F := fun k x => X7_areBases_L1 v k (nI x)) (2 ^ tN t) (fun x => !decide (isBs (tN t) (gr (tF t) (tK t)) x = isBs (tN t) (gr B m) x)) (fun _ => Sum.inl ((0 : Int32), v)) (Sum.inr ()) (fun k i hi => by
    show X7_areBases_L1_b v (X7_areBases_L1 v k) (nI i) = _
    unfold X7_areBases_L1_b
    rw [X7_all_v nv h8, bd_s, if_neg (by rw [nI_ltp (by omega) (by omega)]; omega), inb_t (show i < 256 by omega) (by omega), gd_t, gd_t, nI_clamp (by omega), (l1 i hi).2.2, s1.2 13 (by omega), hW i hi]
    by_cases q : isBs (tN t) (gr (tF t) (tK t)) i = isBs (tN t) (gr B m) i
    · rw [if_pos (by rw [q]), decide_eq_true q, nm_u, nI_1]; rfl
    · rw [if_neg (by rw [bI_eq]; exact q), decide_eq_false q]; rfl) (fun k => by
    show X7_areBases_L1_b v (X7_areBases_L1 v k) (nI (2 ^ tN t)) = _
    unfold X7_areBases_L1_b
    rw [X7_all_v nv h8, bd_s, if_pos (by rw [nI_ltp (by omega) (by omega)]; omega)]) (k := N) (by omega)
  have sb := same_bases (n := tN t) h8 hO.2.2.2.2.2 hB
  unfold X7_areBases
  rw [show (1 : Int32) = nI 1 from rfl, e1, bd_s, l0]
  rcases h with ⟨i, i1, i2, -, e⟩ | ⟨i1, e⟩
  · rw [e, bd_s]
    have : same (tF t) (tK t) B m = false := by
      cases q : same (tF t) (tK t) B m with
      | false => rfl
      | true =>
        rw [decide_eq_true (sb.mpr (same_iff.mp q) i i1)] at i2
        exact absurd i2 (by decide)
    rw [this]; rfl
  · rw [e, bd_s]
    have : same (tF t) (tK t) B m = true := same_iff.mpr (sb.mp fun x hx => by
      have := i1 x hx
      simpa using this)
    rw [this]; rfl
/-- the ranks fresh on the class's side, the call not yet counted -/
theorem Inv.fresh {k N : Nat} {s u : ST} (h : Inv k s u) (hk : k < 512) (hN : 300 < N) : ∃ t s', OKT t ∧ XT u 0 0 t ∧ X6_freshRanks N s = some s' ∧ RanksOK s' t ∧ XT s' 1 0 t ∧ ScR s s' ∧ (∀ u', ScM u u' → Inv k s' u') := by
  obtain ⟨t, h1, h2, h3, ⟨ch, c1, c2, c3, c4⟩, h5, h6, h7⟩ := h
  obtain ⟨s', e, r, q, rk, z, x⟩ := X6_freshRanks_v (k := N) hN h2 h1 c2 (by omega) c3
  exact ⟨t, s', h1, h3, e, r, x, q, fun u' g => ⟨t, h1, x, h3.scM g (by omega), ⟨ch, c1, z, rk, c4.scX q.x⟩, h5.scX q.x g, h6.scX q.x g, h7.scX q.x g⟩⟩
