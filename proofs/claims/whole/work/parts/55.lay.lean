/-! PURE 10: what the reference lays out for a side -/
def isFr (r : Nat → Nat) (x : Nat) : Bool := decide (r x = pc x)
theorem isFr_t {r : Nat → Nat} {x : Nat} (h : r x = pc x) : isFr r x = true := decide_eq_true h
theorem isFr_f {r : Nat → Nat} {x : Nat} (h : ¬ r x = pc x) : isFr r x = false := decide_eq_false h
def isBs (n : Nat) (r : Nat → Nat) (x : Nat) : Bool := isFr r x && decide (pc x = r (2 ^ n - 1))
def LayOK (s : ST) (n : Nat) (r : Nat → Nat) : Prop := ∀ x, x < 2 ^ n → s.2.1 10 x = nI (r x) ∧ s.2.1 8 x = bI (isFr r x) ∧ s.2.1 9 x = bI (isBs n r x)
/-- the family without the sets whose numbers are in u -/
def mk (A : Nat → Nat) (u : Nat) : Nat → Nat := fun j => if u.testBit j = true then 0 else A j
theorem mk_0 (A : Nat → Nat) : mk A 0 = A := funext fun j => by unfold mk; rw [Nat.zero_testBit]; rfl
theorem X7_meeting_v {k m x u : Nat} {s : ST} {A : Nat → Nat} (hk : 10 < k) (hm : s.1 2 = nI m) (h8 : m ≤ 8) (hA : ∀ j, j < m → s.2.1 2 j = nI (A j)) (hx : x < 256) (hu : u < 256) : X7_meeting k s (nI x) (nI u) = some (nI (cv (mk A u) m x)) := by
  unfold X7_meeting
  have h := loop0 (F := fun j i v => X7_meeting_L1 s (nI x) (nI u) j (nI i) v) (t := nI (cv (mk A u) m x)) m (fun i => nI (cv (mk A u) i x)) (fun j i hi => by
      show X7_meeting_L1_b s (nI x) (nI u) (X7_meeting_L1 s (nI x) (nI u) j) (nI i) _ = _
      unfold X7_meeting_L1_b
      rw [hm, if_neg (by rw [nI_lep (by omega) (by omega)]; omega), X7_has_v (by omega) (by omega), bd_s]
      by_cases q : u.testBit i = true
      · rw [ib_t q]
        simp only [nm_u, nI_1]
        rw [l0, nI_add, show cv (mk A u) (i + 1) x = cv (mk A u) i x + (if mk A u i &&& x = 0 then 0 else 1) from rfl, show mk A u i = 0 from if_pos q, Nat.zero_and, if_pos rfl]
      · have hand := Nat.and_le_right (n := A i) (m := x)
        rw [ib_f (by simpa using q), inb_t (show i < 8 by omega) (by omega), gd_t, nI_clamp (by omega), hA i hi, nx_and]
        rw [show cv (mk A u) (i + 1) x = cv (mk A u) i x + (if mk A u i &&& x = 0 then 0 else 1) from rfl, show mk A u i = A i from if_neg q]
        by_cases r : A i &&& x = 0
        · rw [if_pos (by rw [nI_eq0 (by omega)]; exact r), if_pos r]
          simp only [nm_u, nI_1]
          rw [l0, nI_add]
        · rw [if_neg (by rw [nI_eq0 (by omega)]; exact r), if_neg r]
          simp only [nm_u, nI_1]) (fun j => by
      show X7_meeting_L1_b s (nI x) (nI u) (X7_meeting_L1 s (nI x) (nI u) j) (nI m) _ = _
      unfold X7_meeting_L1_b
      rw [hm, if_pos (by rw [nI_lep (by omega) (by omega)]; exact Nat.le_refl _)]) (k := k) (by omega)
  rw [l0]
  rw [show cv (mk A u) 0 x = 0 from rfl] at h
  rw [h, bd_s]
/-- Hall's condition, post by post -/
theorem hall_less {A : Nat → Nat} {k x n : Nat} (hx : x < 2 ^ n) : Hall A k x ↔ pc x ≤ cv A k x ∧ ∀ i, i < n → x.testBit i = true → Hall A k (dif x (2 ^ i)) := by
  constructor
  · intro h
    exact ⟨h x (sub_rf x), fun i _ _ => hall_part h (sub_dif x _)⟩
  · rintro ⟨h1, h2⟩ w hw
    by_cases e : w = x
    · subst e; exact h1
    · have : ∃ i, x.testBit i = true ∧ w.testBit i = false := by
        rcases Classical.em (∃ i, x.testBit i = true ∧ w.testBit i = false) with g | g
        · exact g
        · refine absurd (sub_anti hw fun i hi => ?_) e
          cases q : w.testBit i with
          | true => rfl
          | false => exact absurd ⟨i, hi, q⟩ g
      obtain ⟨i, hi, hwi⟩ := this
      refine h2 i (tb_lt hx hi) hi w fun j hj => ?_
      rw [dif_tb, hw j hj, tb_two]
      by_cases q : i = j
      · subst q; rw [hj] at hwi; cases hwi
      · simp [q]
theorem layFree_L2 {k n x : Nat} {s : ST} {p : Nat → Bool} {b : Bool} (hk : 10 < k) (hn : s.1 0 = nI n) (h8 : n ≤ 8) (hx : x < 256) (hp : ∀ y, y < x → s.2.1 8 y = bI (p y)) : ∃ c, X7_layFree_L2 s (nI x) k (nI 0) (bI b) = some (bI c) ∧ (c = true ↔ b = true ∧ ∀ i, i < n → x.testBit i = true → p (dif x (2 ^ i)) = true) := by
  obtain ⟨z, e, c, hz, h⟩ := loopInv0 (F := fun j i (z : Int32) => X7_layFree_L2 s (nI x) j (nI i) z) (Q := fun z => ∃ c, z = bI c ∧ (c = true ↔ b = true ∧ ∀ i, i < n → x.testBit i = true → p (dif x (2 ^ i)) = true)) (fun i z => ∃ c, z = bI c ∧ (c = true ↔ b = true ∧ ∀ j, j < i → x.testBit j = true → p (dif x (2 ^ j)) = true)) n (fun j i z hi ⟨c, hz, hc⟩ => by
      subst hz
      show ∃ z', _ ∧ X7_layFree_L2_b s (nI x) (X7_layFree_L2 s (nI x) j) (nI i) (bI c) = _
      unfold X7_layFree_L2_b
      rw [hn, if_neg (by rw [nI_lep (by omega) (by omega)]; omega)]
      cases c with
      | false =>
        refine ⟨bI false, ⟨false, rfl, ⟨fun h => (by cases h), fun h => hc.mpr ⟨h.1, fun j hj => h.2 j (by omega)⟩⟩⟩, ?_⟩
        rw [ib_f rfl]
        simp only [nm_u, nI_1]
        rfl
      | true =>
        rw [ib_t rfl, X7_has_v (by omega) (by omega), bd_s]
        by_cases q : x.testBit i = true
        · have hd := dif_two_lt q
          rw [ib_t q, no_val (by omega), inb_t (show dif x (2 ^ i) < 256 by omega) (by omega), gd_t, nI_clamp (by omega), hp _ hd]
          refine ⟨bI (p (dif x (2 ^ i))), ⟨p (dif x (2 ^ i)), rfl, fun h => ⟨(hc.mp rfl).1, fun j hj hxj => ?_⟩, fun h => h.2 i (by omega) q⟩, ?_⟩
          · by_cases e : j = i
            · subst e; exact h
            · exact (hc.mp rfl).2 j (by omega) hxj
          · cases p (dif x (2 ^ i)) with
            | false => rw [ib_f rfl]; simp only [nm_u, nI_1]; rfl
            | true => rw [ib_t rfl]; simp only [nm_u, nI_1]; rfl
        · rw [ib_f (by simpa using q)]
          refine ⟨bI true, ⟨true, rfl, fun _ => ⟨(hc.mp rfl).1, fun j hj hxj => ?_⟩, fun _ => rfl⟩, by simp only [nm_u, nI_1]; rfl⟩
          by_cases e : j = i
          · subst e; exact absurd hxj q
          · exact (hc.mp rfl).2 j (by omega) hxj) (fun j z ⟨c, hz, hc⟩ => by
      subst hz
      refine ⟨_, ?_, c, rfl, hc⟩
      show X7_layFree_L2_b s (nI x) (X7_layFree_L2 s (nI x) j) (nI n) (bI c) = _
      unfold X7_layFree_L2_b
      rw [hn, if_pos (by rw [nI_lep (by omega) (by omega)]; exact Nat.le_refl _)]) (k := k) (by omega) (a := bI b) ⟨b, rfl, fun h => ⟨h, fun j hj => by omega⟩, fun h => h.1⟩
  subst hz
  exact ⟨c, e, h⟩
theorem layRanks_L2 {k n x s0 : Nat} {s : ST} {f : Nat → Nat} (hk : 10 < k) (hn : s.1 0 = nI n) (h8 : n ≤ 8) (hx : x < 256) (hs : s0 ≤ 8) (hf : ∀ y, y < x → s.2.1 10 y = nI (f y)) (hb : ∀ y, y < x → f y ≤ 8) : X7_layRanks_L2 s (nI x) k (nI 0) (nI s0) = some (nI (mxB x f s0 n)) := by
  have hm : ∀ i, i ≤ n → mxB x f s0 i ≤ 8 := fun i hi => mxB_le (by omega) fun j _ hj => hb _ (dif_two_lt hj)
  exact loop0 (F := fun k i v => X7_layRanks_L2 s (nI x) k (nI i) v) (t := nI (mxB x f s0 n)) n (fun i => nI (mxB x f s0 i)) (fun k i hi => by
      show X7_layRanks_L2_b s (nI x) (X7_layRanks_L2 s (nI x) k) (nI i) _ = _
      unfold X7_layRanks_L2_b
      rw [hn, if_neg (by rw [nI_lep (by omega) (by omega)]; omega), X7_has_v (by omega) (by omega), bd_s]
      by_cases q : x.testBit i = true
      · have hd := dif_two_lt q
        have := hm i (by omega)
        have := hb _ hd
        rw [ib_t q, no_val (by omega), inb_t (show dif x (2 ^ i) < 256 by omega) (by omega), gd_t]
        simp only [nm_u, nI_clamp (show dif x (2 ^ i) < 2 ^ 31 by omega), hf _ hd, nI_1]
        rw [max_if _ _ (by omega) (by omega)]
        rw [show mxB x f s0 (i + 1) = max (mxB x f s0 i) (f (dif x (2 ^ i))) from if_pos q]
      · rw [ib_f (by simpa using q)]
        simp only [nm_u, nI_1]
        rw [show mxB x f s0 (i + 1) = mxB x f s0 i from if_neg q]) (fun k => by
      show X7_layRanks_L2_b s (nI x) (X7_layRanks_L2 s (nI x) k) (nI n) _ = _
      unfold X7_layRanks_L2_b
      rw [hn, if_pos (by rw [nI_lep (by omega) (by omega)]; exact Nat.le_refl _)]) (k := k) (by omega)
/-- ranks and bases out of what is free -/
theorem X7_layRanks_v {k n : Nat} {s : ST} {r : Nat → Nat} (hk : 300 < k) (hn : s.1 0 = nI n) (hr : RK n r) (hf : ∀ x, x < 2 ^ n → s.2.1 8 x = bI (isFr r x)) : ∃ s', X7_layRanks k s = some s' ∧ ScL s s' ∧ LayOK s' n r := by
  have h8 := hr.1
  have p8 := pow8 h8
  have hp := Nat.two_pow_pos n
  have hle : ∀ y, y < 2 ^ n → r y ≤ 8 := fun y hy => Nat.le_trans (hr.le_pc hy) (pc_le8 y)
  unfold X7_layRanks
  have h := loop0 (F := fun j i (z : ST) => X7_layRanks_L1 k j (nI i) z) (t := sA s 10 (fl (s.2.1 10) (fun x => nI (r x)) (2 ^ n))) (2 ^ n) (fun i => sA s 10 (fl (s.2.1 10) (fun x => nI (r x)) i)) (fun j i hi => by
      show X7_layRanks_L1_b k (X7_layRanks_L1 k j) (nI i) _ = _
      unfold X7_layRanks_L1_b
      have hl := pc_le8 i
      rw [X7_all_v (show (sA s 10 _).1 0 = nI n from hn) h8, bd_s, if_neg (by rw [nI_ltp (by omega) (by omega)]; omega), inb_t (show i < 256 by omega) (by omega), gd_t, nI_clamp (by omega), show (sA s 10 (fl (s.2.1 10) (fun x => nI (r x)) i)).2.1 8 i = bI (isFr r i) from hf i hi]
      by_cases q : r i = pc i
      · have g := layRanks_L2 (k := k) (s := sA s 10 (fl (s.2.1 10) (fun x => nI (r x)) i)) (f := r) (s0 := pc i) (by omega) hn h8 (show i < 256 by omega) hl (fun y hy => by simp only [st_AA, if_true]; rw [fl_in hy]) (fun y hy => hle y (by omega))
        rw [ib_t (isFr_t q), J6_bit_all _ (by omega), bd_s, l0, g, bd_s, gd_t]
        simp only [nm_u, nI_1, st_AA, if_true, sA_sA]
        rw [mxB_fr hr hi q, fl_u (s.2.1 10) (fun x => nI (r x)) i]
      · have g := layRanks_L2 (k := k) (s := sA s 10 (fl (s.2.1 10) (fun x => nI (r x)) i)) (f := r) (s0 := 0) (by omega) hn h8 (show i < 256 by omega) (by omega) (fun y hy => by simp only [st_AA, if_true]; rw [fl_in hy]) (fun y hy => hle y (by omega))
        rw [ib_f (isFr_f q), l0, g, bd_s, gd_t]
        simp only [nm_u, nI_1, st_AA, if_true, sA_sA]
        rw [mxB_rk hr hi q, fl_u (s.2.1 10) (fun x => nI (r x)) i]) (fun j => by
      show X7_layRanks_L1_b k (X7_layRanks_L1 k j) (nI (2 ^ n)) _ = _
      unfold X7_layRanks_L1_b
      rw [X7_all_v (show (sA s 10 _).1 0 = nI n from hn) h8, bd_s, if_pos (by rw [nI_ltp (by omega) (by omega)]; omega)]) (k := k) (by omega)
  rw [fl_0, sA_id] at h
  rw [l0, h, bd_s]
  have h10 : ∀ x, x < 2 ^ n → (sA s 10 (fl (s.2.1 10) (fun x => nI (r x)) (2 ^ n))).2.1 10 x = nI (r x) := fun x hx => by
    simp only [st_AA, if_true]; rw [fl_in hx]
  have c1 : ScL s (sA s 10 (fl (s.2.1 10) (fun x => nI (r x)) (2 ^ n))) := ScL.sA (by omega) (by omega)
  have n1 : (sA s 10 (fl (s.2.1 10) (fun x => nI (r x)) (2 ^ n))).1 0 = nI n := hn
  have f1 : ∀ x, x < 2 ^ n → (sA s 10 (fl (s.2.1 10) (fun x => nI (r x)) (2 ^ n))).2.1 8 x = bI (isFr r x) := hf
  generalize sA s 10 (fl (s.2.1 10) (fun x => nI (r x)) (2 ^ n)) = u at h10 c1 n1 f1 ⊢
  have h3 := loop0 (F := fun j i (z : ST) => X7_layRanks_L3 j (nI i) z) (t := sA u 9 (fl (u.2.1 9) (fun x => bI (isBs n r x)) (2 ^ n))) (2 ^ n) (fun i => sA u 9 (fl (u.2.1 9) (fun x => bI (isBs n r x)) i)) (fun j i hi => by
      show X7_layRanks_L3_b (X7_layRanks_L3 j) (nI i) _ = _
      unfold X7_layRanks_L3_b
      have hl := pc_le8 i
      have e10 : (sA u 9 (fl (u.2.1 9) (fun x => bI (isBs n r x)) i)).2.1 10 (2 ^ n - 1) = nI (r (2 ^ n - 1)) := h10 _ (by omega)
      rw [X7_all_v (show (sA u 9 _).1 0 = nI n from n1) h8, bd_s, if_neg (by rw [nI_ltp (by omega) (by omega)]; omega), inb_t (show i < 256 by omega) (by omega), gd_t, nI_clamp (by omega), show (sA u 9 (fl (u.2.1 9) (fun x => bI (isBs n r x)) i)).2.1 8 i = bI (isFr r i) from f1 i hi]
      by_cases q : isFr r i = true
      · have := hle (2 ^ n - 1) (by omega)
        rw [ib_t q, J6_bit_all _ (by omega), bd_s, bd_s, inb_t (show 2 ^ n - 1 < 256 by omega) (by omega), gd_t, nI_clamp (by omega), e10]
        by_cases g : pc i = r (2 ^ n - 1)
        · rw [if_pos (by rw [nI_inj (by omega) (by omega)]; exact g), gd_t, show bz (1 : Int32) = true from rfl, gd_t]
          simp only [nm_u, nI_1, st_AA, if_true, sA_sA]
          rw [show (1 : Int32) = bI (isBs n r i) from by unfold isBs; rw [q, decide_eq_true g]; rfl, fl_u (u.2.1 9) (fun x => bI (isBs n r x)) i]
        · rw [if_neg (by rw [nI_inj (by omega) (by omega)]; exact g), gd_t, show bz (0 : Int32) = true from rfl, gd_t]
          simp only [nm_u, nI_1, st_AA, if_true, sA_sA]
          rw [show (0 : Int32) = bI (isBs n r i) from by unfold isBs; rw [q, decide_eq_false g]; rfl, fl_u (u.2.1 9) (fun x => bI (isBs n r x)) i]
      · have q : isFr r i = false := by simpa using q
        rw [ib_f q, gd_t, show bz (0 : Int32) = true from rfl, gd_t]
        simp only [nm_u, nI_1, st_AA, if_true, sA_sA]
        rw [show (0 : Int32) = bI (isBs n r i) from by unfold isBs; rw [q]; rfl, fl_u (u.2.1 9) (fun x => bI (isBs n r x)) i]) (fun j => by
      show X7_layRanks_L3_b (X7_layRanks_L3 j) (nI (2 ^ n)) _ = _
      unfold X7_layRanks_L3_b
      rw [X7_all_v (show (sA u 9 _).1 0 = nI n from n1) h8, bd_s, if_pos (by rw [nI_ltp (by omega) (by omega)]; omega)]) (k := k) (by omega)
  rw [fl_0, sA_id] at h3
  rw [h3, bd_s]
  refine ⟨_, rfl, c1.tr (ScL.sA (by omega) (by omega)), fun x hx => ⟨h10 x hx, f1 x hx, ?_⟩⟩
  simp only [st_AA, if_true]; rw [fl_in hx]
theorem isFr_iff {r : Nat → Nat} {x : Nat} : isFr r x = true ↔ r x = pc x := decide_eq_true_iff
theorem isBs_iff {n : Nat} {r : Nat → Nat} {x : Nat} : isBs n r x = true ↔ r x = pc x ∧ pc x = r (2 ^ n - 1) := by
  unfold isBs
  rw [Bool.and_eq_true, isFr_iff, decide_eq_true_iff]
/-- the free sets of the family's side -/
theorem layFree_fam {k : Nat} {s : ST} {t : TB} (hk : 300 < k) (hX : XT s 0 0 t) (hO : OKT t) : ∃ s', X7_layFree k s (nI 1) = some s' ∧ ScL s s' ∧ ∀ x, x < 2 ^ tN t → s'.2.1 8 x = bI (isFr (rw4 t 1) x) := by
  have h8 := hO.1.2
  have p8 := pow8 h8
  have hp := Nat.two_pow_pos (tN t)
  refine ⟨sA s 8 (fl (s.2.1 8) (fun x => bI (isFr (rw4 t 1) x)) (2 ^ tN t)), ?_, ScL.sA (by omega) (by omega), fun x hx => by simp only [st_AA, if_true]; rw [fl_in hx]⟩
  unfold X7_layFree
  rw [if_neg (by decide)]
  have h := loop0 (F := fun j i (z : ST) => X7_layFree_L1 k (nI 1) j (nI i) z) (t := sA s 8 (fl (s.2.1 8) (fun x => bI (isFr (rw4 t 1) x)) (2 ^ tN t))) (2 ^ tN t) (fun i => sA s 8 (fl (s.2.1 8) (fun x => bI (isFr (rw4 t 1) x)) i)) (fun j i hi => by
      show X7_layFree_L1_b k (nI 1) (X7_layFree_L1 k (nI 1) j) (nI i) _ = _
      unfold X7_layFree_L1_b
      have hl := pc_le8 i
      have hc := cv_le (A := tF t) (k := tK t) (w := i)
      have hK := hO.2.2.1
      have m0 := X7_meeting_v (k := k) (s := sA s 8 (fl (s.2.1 8) (fun x => bI (isFr (rw4 t 1) x)) i)) (A := tF t) (m := tK t) (x := i) (u := 0) (by omega) hX.2.2.1 hK hX.2.2.2.2.2 (by omega) (by omega)
      rw [mk_0] at m0
      have hp8 : ∀ y, y < i → (sA s 8 (fl (s.2.1 8) (fun x => bI (isFr (rw4 t 1) x)) i)).2.1 8 y = bI (isFr (rw4 t 1) y) := fun y hy => by simp only [st_AA, if_true]; rw [fl_in hy]
      have hH : ∀ y, y < 256 → (isFr (rw4 t 1) y = true ↔ Hall (tF t) (tK t) y) := fun y hy => by rw [isFr_iff, rw4_1]; exact gr_free hy
      rw [X7_all_v (show (sA s 8 _).1 0 = nI (tN t) from hX.1) h8, bd_s, if_neg (by rw [nI_ltp (by omega) (by omega)]; omega), if_neg (by decide), l0, m0, bd_s, J6_bit_all _ (by omega), bd_s]
      by_cases q : cv (tF t) (tK t) i < pc i
      · obtain ⟨c, e, hcc⟩ := layFree_L2 (k := k) (n := tN t) (x := i) (b := false) (by omega) (show (sA s 8 _).1 0 = nI (tN t) from hX.1) h8 (by omega) hp8
        rw [if_pos (by rw [nI_ltp (by omega) (by omega)]; exact q)]
        rw [show X7_layFree_L2 (sA s 8 (fl (s.2.1 8) (fun x => bI (isFr (rw4 t 1) x)) i)) (nI i) k (nI 0) (nI 0) = some (bI c) from e, bd_s, inb_t (show i < 256 by omega) (by omega), gd_t, gd_bz]
        simp only [nm_u, nI_clamp (show i < 2 ^ 31 by omega), nI_1, st_AA, if_true, sA_sA]
        have : c = isFr (rw4 t 1) i := by
          cases c with
          | true => exact absurd (hcc.mp rfl).1 (by decide)
          | false =>
            cases g : isFr (rw4 t 1) i with
            | false => rfl
            | true =>
              have := ((hH i (by omega)).mp g) i (sub_rf i)
              omega
        rw [this, fl_u (s.2.1 8) (fun x => bI (isFr (rw4 t 1) x)) i]
      · obtain ⟨c, e, hcc⟩ := layFree_L2 (k := k) (n := tN t) (x := i) (b := true) (by omega) (show (sA s 8 _).1 0 = nI (tN t) from hX.1) h8 (by omega) hp8
        rw [if_neg (by rw [nI_ltp (by omega) (by omega)]; exact q)]
        rw [show X7_layFree_L2 (sA s 8 (fl (s.2.1 8) (fun x => bI (isFr (rw4 t 1) x)) i)) (nI i) k (nI 0) (1 : Int32) = some (bI c) from e, bd_s, inb_t (show i < 256 by omega) (by omega), gd_t, gd_bz]
        simp only [nm_u, nI_clamp (show i < 2 ^ 31 by omega), nI_1, st_AA, if_true, sA_sA]
        have : c = isFr (rw4 t 1) i := by
          apply Bool.eq_iff_iff.mpr
          rw [hcc, hH i (by omega), hall_less (show i < 2 ^ tN t from hi)]
          constructor
          · rintro ⟨-, g⟩
            exact ⟨by omega, fun j hj hij => (hH _ (by have := dif_two_lt hij; omega)).mp (g j hj hij)⟩
          · rintro ⟨-, g⟩
            exact ⟨rfl, fun j hj hij => (hH _ (by have := dif_two_lt hij; omega)).mpr (g j hj hij)⟩
        rw [this, fl_u (s.2.1 8) (fun x => bI (isFr (rw4 t 1) x)) i]) (fun j => by
      show X7_layFree_L1_b k (nI 1) (X7_layFree_L1 k (nI 1) j) (nI (2 ^ tN t)) _ = _
      unfold X7_layFree_L1_b
      rw [X7_all_v (show (sA s 8 _).1 0 = nI (tN t) from hX.1) h8, bd_s, if_pos (by rw [nI_ltp (by omega) (by omega)]; omega)]) (k := k) (by omega)
  rw [fl_0, sA_id] at h
  rw [l0, h, bd_s]
/-- the free sets of the roads' side -/
theorem layFree_roads {k : Nat} {s : ST} {t : TB} (hk : 300 < k) (hX : XT s 0 0 t) (hO : OKT t) : ∃ s', X7_layFree k s (nI 0) = some s' ∧ ScL s s' ∧ ∀ x, x < 2 ^ tN t → s'.2.1 8 x = bI (isFr (rw4 t 0) x) := by
  have h8 := hO.1.2
  have p8 := pow8 h8
  have hp := Nat.two_pow_pos (tN t)
  obtain ⟨u, eu, su, op, hop⟩ := X7_layCuts_v hk hX hO
  have hXu := hX.scL su (by omega)
  refine ⟨sA u 8 (fl (u.2.1 8) (fun x => bI (isFr (rw4 t 0) x)) (2 ^ tN t)), ?_, su.tr (ScL.sA (by omega) (by omega)), fun x hx => by simp only [st_AA, if_true]; rw [fl_in hx]⟩
  unfold X7_layFree
  rw [if_pos (show nI 0 = 0 from rfl), eu, bd_s]
  have h := loop0 (F := fun j i (z : ST) => X7_layFree_L1 k (nI 0) j (nI i) z) (t := sA u 8 (fl (u.2.1 8) (fun x => bI (isFr (rw4 t 0) x)) (2 ^ tN t))) (2 ^ tN t) (fun i => sA u 8 (fl (u.2.1 8) (fun x => bI (isFr (rw4 t 0) x)) i)) (fun j i hi => by
      show X7_layFree_L1_b k (nI 0) (X7_layFree_L1 k (nI 0) j) (nI i) _ = _
      unfold X7_layFree_L1_b
      have hl := pc_le8 i
      obtain ⟨c, e, hc, -⟩ := X7_cutOf_v (s := sA u 8 (fl (u.2.1 8) (fun x => bI (isFr (rw4 t 0) x)) i)) hk hXu.1 h8 (fun c hc => by exact hop c hc) hi
      have kc := kappa (n := tN t) (ro := tR t) (T := tT t) h8 hO.2.1 hi (fun c hc => (hop c hc).2.1) hc
      have hcl := hc.1
      have hl2 := pc_le8 c
      rw [X7_all_v (show (sA u 8 _).1 0 = nI (tN t) from hXu.1) h8, bd_s, if_neg (by rw [nI_ltp (by omega) (by omega)]; omega), if_pos (show nI 0 = 0 from rfl), e, bd_s, J6_bit_all _ (by omega), bd_s, J6_bit_all _ (by omega), bd_s, inb_t (show i < 256 by omega) (by omega), gd_t, gd_t, nI_clamp (by omega)]
      have hq : isFr (rw4 t 0) i = decide (pc c = pc i) := by
        unfold isFr
        rw [rw4_0, kc]
        rfl
      by_cases q : pc c = pc i
      · rw [if_pos (by rw [q]), show bz (1 : Int32) = true from rfl, gd_t]
        simp only [nm_u, nI_1, st_AA, if_true, sA_sA]
        rw [show (1 : Int32) = bI (isFr (rw4 t 0) i) by rw [hq, decide_eq_true q]; rfl, fl_u (u.2.1 8) (fun x => bI (isFr (rw4 t 0) x)) i]
      · rw [if_neg (by rw [nI_inj (by omega) (by omega)]; exact q), show bz (0 : Int32) = true from rfl, gd_t]
        simp only [nm_u, nI_1, st_AA, if_true, sA_sA]
        rw [show (0 : Int32) = bI (isFr (rw4 t 0) i) by rw [hq, decide_eq_false q]; rfl, fl_u (u.2.1 8) (fun x => bI (isFr (rw4 t 0) x)) i]) (fun j => by
      show X7_layFree_L1_b k (nI 0) (X7_layFree_L1 k (nI 0) j) (nI (2 ^ tN t)) _ = _
      unfold X7_layFree_L1_b
      rw [X7_all_v (show (sA u 8 _).1 0 = nI (tN t) from hXu.1) h8, bd_s, if_pos (by rw [nI_ltp (by omega) (by omega)]; omega)]) (k := k) (by omega)
  rw [fl_0, sA_id] at h
  rw [l0, h, bd_s]
/-- a search -/
theorem loopSearch {T : Type} {F : Nat → Nat → Option T} (N : Nat) (p : Nat → Bool) (hit : Nat → T) (t : T) (hs : ∀ k i, i < N → F (k + 1) i = if p i = true then some (hit i) else F k (i + 1)) (hx : ∀ k, F (k + 1) N = some t) {k : Nat} (hk : N < k) : (∃ i, i < N ∧ p i = true ∧ (∀ j, j < i → p j = false) ∧ F k 0 = some (hit i)) ∨ ((∀ j, j < N → p j = false) ∧ F k 0 = some t) := by
  have key : ∀ d i k, i + d = N → d < k → (∀ j, j < i → p j = false) → (∃ m, m < N ∧ p m = true ∧ (∀ j, j < m → p j = false) ∧ F k i = some (hit m)) ∨ ((∀ j, j < N → p j = false) ∧ F k i = some t) := by
    intro d
    induction d with
    | zero =>
      intro i k h1 h2 h3
      obtain ⟨k, rfl⟩ : ∃ j, k = j + 1 := ⟨k - 1, by omega⟩
      rw [show i = N by omega] at h3 ⊢
      exact Or.inr ⟨h3, hx k⟩
    | succ d ih =>
      intro i k h1 h2 h3
      obtain ⟨k, rfl⟩ : ∃ j, k = j + 1 := ⟨k - 1, by omega⟩
      rw [hs k i (by omega)]
      cases q : p i with
      | true => exact Or.inl ⟨i, by omega, q, h3, by rw [if_pos rfl]⟩
      | false =>
        rw [if_neg (by decide)]
        refine ih (i + 1) k (by omega) (by omega) fun j hj => ?_
        by_cases e : j = i
        · subst e; exact q
        · exact h3 j (by omega)
  exact key N 0 k (by omega) hk (fun j hj => by omega)
/-- a search that is sure to find -/
theorem loopFirst {T : Type} {F : Nat → Nat → Option T} {m : Nat} (p : Nat → Bool) (hit : Nat → T) (hp : p m = true) (hm : ∀ j, j < m → p j = false) (hs : ∀ k i, i ≤ m → F (k + 1) i = if p i = true then some (hit i) else F k (i + 1)) {k : Nat} (hk : m < k) : F k 0 = some (hit m) := by
  have key : ∀ d i k, i + d = m → d < k → F k i = some (hit m) := by
    intro d
    induction d with
    | zero =>
      intro i k h1 h2
      obtain ⟨k, rfl⟩ : ∃ j, k = j + 1 := ⟨k - 1, by omega⟩
      rw [show i = m by omega, hs k m (Nat.le_refl m), if_pos hp]
    | succ d ih =>
      intro i k h1 h2
      obtain ⟨k, rfl⟩ : ∃ j, k = j + 1 := ⟨k - 1, by omega⟩
      rw [hs k i (by omega), if_neg (by rw [hm i (by omega)]; decide)]
      exact ih (i + 1) k (by omega) (by omega)
  exact key m 0 k (by omega) hk
theorem dif_dif_all {n x : Nat} (hx : x < 2 ^ n) : dif (2 ^ n - 1) (dif (2 ^ n - 1) x) = x := tb_ext fun i => by
  rw [dif_tb, dif_tb, tb_all]
  by_cases h : i < n
  · simp [h]
  · rw [tb_big hx (by omega)]; simp [h]
/-- the other side of the other side -/
theorem du_du {n x : Nat} {r : Nat → Nat} (h : RK n r) (hx : x < 2 ^ n) : du n (du n r) x = r x := by
  have hp := Nat.two_pow_pos n
  have hA : 2 ^ n - 1 < 2 ^ n := by omega
  have hd : dif (2 ^ n - 1) x < 2 ^ n := dif_lt hA
  have a := du_ok (du_rk h) hx
  have b := du_ok h hd
  have c := du_ok h hA
  have e : dif (2 ^ n - 1) (2 ^ n - 1) = 0 := tb_ext fun i => by rw [dif_tb, Nat.zero_testBit]; cases (2 ^ n - 1).testBit i <;> rfl
  rw [e, h.2.1] at c
  rw [dif_dif_all hx] at b
  have p := pc_sub_dif (sub_all hx)
  omega
/-- a base apart from a set: the set is free on the other side -/
theorem past_base {n x : Nat} {r : Nat → Nat} (h : RK n r) (hx : x < 2 ^ n) : (∃ b, b < 2 ^ n ∧ isBs n r b = true ∧ b &&& x = 0) ↔ isFr (du n r) x = true := by
  have hp := Nat.two_pow_pos n
  have hA : 2 ^ n - 1 < 2 ^ n := by omega
  have hd : dif (2 ^ n - 1) x < 2 ^ n := dif_lt hA
  have q := du_ok h hx
  rw [isFr_iff]
  constructor
  · rintro ⟨b, hb, h1, h2⟩
    obtain ⟨h3, h4⟩ := isBs_iff.mp h1
    have s : sub b (dif (2 ^ n - 1) x) := fun i hi => by
      rw [dif_tb, tb_all, decide_eq_true (tb_lt hb hi), and_0.mp h2 i hi]; rfl
    have a1 := h.mono hd s
    have a2 := h.mono hA (sub_dif (2 ^ n - 1) x)
    omega
  · intro g
    obtain ⟨y, -, y2, y3, y4⟩ := h.ext hd (sub_0 _) (by rw [h.2.1, pc_0])
    refine ⟨y, sub_lt y2 hd, isBs_iff.mpr ⟨y3, by omega⟩, and_0.mpr fun i hi => ?_⟩
    have := y2 i hi
    rw [dif_tb, Bool.and_eq_true] at this
    simpa using this.2
theorem X7_isPastBase_v {k n x : Nat} {s : ST} {r : Nat → Nat} (hk : 300 < k) (hn : s.1 0 = nI n) (hr : RK n r) (hB : ∀ x, x < 2 ^ n → s.2.1 9 x = bI (isBs n r x)) (hx : x < 2 ^ n) : X7_isPastBase k s (nI x) = some (bI (isFr (du n r) x)) := by
  have h8 := hr.1
  have p8 := pow8 h8
  have hp := Nat.two_pow_pos n
  have hpb := past_base hr hx
  have h := loopSearch (F := fun j i => X7_isPastBase_L1 s (nI x) j (nI i)) (2 ^ n) (fun b => isBs n r b && decide (b &&& x = 0)) (fun _ => Sum.inl (1 : Int32)) (Sum.inr ()) (fun j i hi => by
      show X7_isPastBase_L1_b s (nI x) (X7_isPastBase_L1 s (nI x) j) (nI i) = _
      unfold X7_isPastBase_L1_b
      have hand := Nat.and_le_left (n := i) (m := x)
      rw [X7_all_v hn h8, bd_s, if_neg (by rw [nI_ltp (by omega) (by omega)]; omega), inb_t (show i < 256 by omega) (by omega), gd_t, nI_clamp (by omega), hB i hi]
      cases q : isBs n r i with
      | false =>
        rw [ib_f rfl, nm_u, nI_1]
        rfl
      | true =>
        rw [ib_t rfl, nx_and]
        by_cases g : i &&& x = 0
        · rw [if_pos (by rw [nI_eq0 (by omega)]; exact g), decide_eq_true g]
          rfl
        · rw [if_neg (by rw [nI_eq0 (by omega)]; exact g), nm_u, nI_1, decide_eq_false g]
          rfl) (fun j => by
      show X7_isPastBase_L1_b s (nI x) (X7_isPastBase_L1 s (nI x) j) (nI (2 ^ n)) = _
      unfold X7_isPastBase_L1_b
      rw [X7_all_v hn h8, bd_s, if_pos (by rw [nI_ltp (by omega) (by omega)]; omega)]) (k := k) (by omega)
  unfold X7_isPastBase
  rw [l0]
  rcases h with ⟨b, hb, q, -, e⟩ | ⟨q, e⟩
  · rw [e, bd_s]
    rw [Bool.and_eq_true, decide_eq_true_iff] at q
    rw [hpb.mp ⟨b, hb, q.1, q.2⟩]
    rfl
  · rw [e, bd_s]
    have : isFr (du n r) x = false := by
      cases g : isFr (du n r) x with
      | false => rfl
      | true =>
        obtain ⟨b, hb, b1, b2⟩ := hpb.mpr g
        have := q b hb
        rw [b1, decide_eq_true b2] at this
        cases this
    rw [this]
    rfl
theorem par4 : ∀ w, w < 4 → nI w - nI w / (2 : Int32) * (2 : Int32) = nI (w % 2) := by decide
/-- what lies out for a side -/
theorem X7_lay_w {k w : Nat} {s : ST} {t : TB} (hk : 300 < k) (hX : XT s 0 0 t) (hO : OKT t) (hw : w < 4) : ∃ s', X7_lay k s (nI w) = some s' ∧ ScL s s' ∧ LayOK s' (tN t) (rw4 t w) := by
  have h8 := hO.1.2
  have p8 := pow8 h8
  have hp := Nat.two_pow_pos (tN t)
  have base : ∃ u v, X7_layFree k s (nI (w % 2)) = some u ∧ X7_layRanks k u = some v ∧ ScL s v ∧ LayOK v (tN t) (rw4 t (w % 2)) := by
    have hm : w % 2 = 0 ∨ w % 2 = 1 := by omega
    rcases hm with e | e
    · rw [e]
      obtain ⟨u, e1, s1, f1⟩ := layFree_roads hk hX hO
      obtain ⟨v, e2, s2, f2⟩ := X7_layRanks_v hk (hX.scL s1 (by omega)).1 (rw4_rk hO 0) f1
      exact ⟨u, v, e1, e2, s1.tr s2, f2⟩
    · rw [e]
      obtain ⟨u, e1, s1, f1⟩ := layFree_fam hk hX hO
      obtain ⟨v, e2, s2, f2⟩ := X7_layRanks_v hk (hX.scL s1 (by omega)).1 (rw4_rk hO 1) f1
      exact ⟨u, v, e1, e2, s1.tr s2, f2⟩
  obtain ⟨u, v, e1, e2, s2, f2⟩ := base
  unfold X7_lay
  rw [par4 w hw, e1, bd_s, e2, bd_s]
  by_cases h2 : w < 2
  · rw [if_pos (by rw [l2, nI_ltp (by omega) (by omega)]; exact h2)]
    refine ⟨v, rfl, s2, ?_⟩
    rw [show w % 2 = w by omega] at f2
    exact f2
  · rw [if_neg (by rw [l2, nI_ltp (by omega) (by omega)]; exact h2)]
    have hr := rw4_rk hO (w % 2)
    have nv : v.1 0 = nI (tN t) := (hX.scL s2 (by omega)).1
    have hd : rw4 t w = du (tN t) (rw4 t (w % 2)) ∨ (w = 2 ∧ ∀ x, x < 2 ^ tN t → rw4 t w x = du (tN t) (rw4 t (w % 2)) x) := by
      have : w = 2 ∨ w = 3 := by omega
      rcases this with rfl | rfl
      · refine Or.inr ⟨rfl, fun x hx => ?_⟩
        rw [show (2 : Nat) % 2 = 0 from rfl, rw4_2, rw4_0]
        exact (du_du (gr_rk (tG t) (tN t) h8) hx).symm
      · refine Or.inl ?_
        rw [show (3 : Nat) % 2 = 1 from rfl, rw4_3, rw4_1]
    have hd : ∀ x, x < 2 ^ tN t → rw4 t w x = du (tN t) (rw4 t (w % 2)) x := by
      rcases hd with q | q
      · intro x _; rw [q]
      · exact q.2
    have h := loop0 (F := fun j i (z : ST) => X7_lay_L1 k j (nI i) z) (t := sA v 8 (fl (v.2.1 8) (fun x => bI (isFr (rw4 t w) x)) (2 ^ tN t))) (2 ^ tN t) (fun i => sA v 8 (fl (v.2.1 8) (fun x => bI (isFr (rw4 t w) x)) i)) (fun j i hi => by
        show X7_lay_L1_b k (X7_lay_L1 k j) (nI i) _ = _
        unfold X7_lay_L1_b
        rw [X7_all_v (show (sA v 8 _).1 0 = nI (tN t) from nv) h8, bd_s, if_neg (by rw [nI_ltp (by omega) (by omega)]; omega), X7_isPastBase_v hk (show (sA v 8 _).1 0 = nI (tN t) from nv) hr (fun x hx => (f2 x hx).2.2) hi, bd_s, inb_t (show i < 256 by omega) (by omega), gd_t, gd_bz]
        simp only [nm_u, nI_clamp (show i < 2 ^ 31 by omega), nI_1, st_AA, if_true, sA_sA]
        rw [show isFr (du (tN t) (rw4 t (w % 2))) i = isFr (rw4 t w) i by unfold isFr; rw [hd i hi], fl_u (v.2.1 8) (fun x => bI (isFr (rw4 t w) x)) i]) (fun j => by
        show X7_lay_L1_b k (X7_lay_L1 k j) (nI (2 ^ tN t)) _ = _
        unfold X7_lay_L1_b
        rw [X7_all_v (show (sA v 8 _).1 0 = nI (tN t) from nv) h8, bd_s, if_pos (by rw [nI_ltp (by omega) (by omega)]; omega)]) (k := k) (by omega)
    rw [fl_0, sA_id] at h
    rw [l0, h, bd_s]
    obtain ⟨z, e3, s3, f3⟩ := X7_layRanks_v (s := sA v 8 (fl (v.2.1 8) (fun x => bI (isFr (rw4 t w) x)) (2 ^ tN t))) hk nv (rw4_rk hO w) (fun x hx => by simp only [st_AA, if_true]; rw [fl_in hx])
    rw [e3, bd_s]
    exact ⟨z, rfl, (s2.tr (ScL.sA (by omega) (by omega))).tr s3, f3⟩
/-- the reference's whole scratch: arrays 7 to 13 -/
def ScM (s s' : ST) : Prop := (∀ c, s'.1 c = s.1 c) ∧ (∀ c, c < 7 ∨ 13 < c → s'.2.1 c = s.2.1 c)
theorem ScM.rf (s : ST) : ScM s s := ⟨fun _ => rfl, fun _ _ => rfl⟩
theorem ScM.tr {a b c : ST} (h : ScM a b) (g : ScM b c) : ScM a c := ⟨fun j => (g.1 j).trans (h.1 j), fun j hj => (g.2 j hj).trans (h.2 j hj)⟩
theorem ScM.sA {s : ST} {c : Nat} {f : Nat → Int32} (h1 : 7 ≤ c) (h2 : c ≤ 13) : ScM s (sA s c f) := ⟨fun _ => rfl, fun j hj => by rw [st_AA, if_neg (by omega)]⟩
theorem XT.scM {s s' : ST} {t : TB} {p a : Nat} (h : XT s p a t) (q : ScM s s') (ha : a ≤ 3) : XT s' p a t := by
  obtain ⟨h1, h2, h3, h4, h5, h6⟩ := h
  refine ⟨?_, ?_, ?_, ?_, ?_, ?_⟩
  · rw [q.1]; exact h1
  · rw [q.1]; exact h2
  · rw [q.1]; exact h3
  · rw [q.2 a (by omega)]; exact h4
  · rw [q.2 _ (by omega)]; exact h5
  · rw [q.2 _ (by omega)]; exact h6
theorem ScL.m {s s' : ST} (h : ScL s s') : ScM s s' := ⟨h.1, fun c hc => h.2 c (by omega)⟩
theorem X7_lay_v {k w : Nat} {s : ST} {t : TB} (hk : 300 < k) (hX : XT s 0 0 t) (hO : OKT t) (hw : w < 4) : ∃ s', X7_lay k s (nI w) = some s' ∧ ScM s s' ∧ LayOK s' (tN t) (rw4 t w) := by
  obtain ⟨s', e, q, l⟩ := X7_lay_w hk hX hO hw
  exact ⟨s', e, q.m, l⟩
