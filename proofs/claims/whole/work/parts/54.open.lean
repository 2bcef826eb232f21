/-! PURE 9: the reference's open posts and least cuts -/
def OI (n : Nat) (ro : Nat → Nat) (T c o : Nat) : Prop := o < 2 ^ n ∧ sub (dif T c) o ∧ sub o (dif (2 ^ n - 1) c) ∧ ∀ o', OpenUp n ro T c o' → sub o o'
theorem lt_ne {o o' : Nat} (h : sub o o') (q : o ≠ o') : o < o' := Nat.lt_of_le_of_ne (sub_le h) q
theorem OI.grow {n T c o i : Nat} {ro : Nat → Nat} (h : OI n ro T c o) (hi : i < n) (hc : c.testBit i = false) (hm : ro i &&& o ≠ 0) : OI n ro T c (o ||| 2 ^ i) := by
  obtain ⟨h1, h2, h3, h4⟩ := h
  refine ⟨or_two_lt h1 hi, sub_tr h2 (sub_or_l _ _), sub_or h3 (sub_two (by rw [dif_tb, tb_all, hc]; simp [hi])), fun o' g => sub_or (h4 o' g) (sub_two ?_)⟩
  refine g.2 i hi hc ?_
  obtain ⟨j, a, b⟩ := meet_iff.mp hm
  exact meet_iff.mpr ⟨j, a, h4 o' g j b⟩
/-- one pass -/
theorem openPast_L2 {k n T c o : Nat} {s : ST} {ro : Nat → Nat} (hk : 10 < k) (hn : s.1 0 = nI n) (h8 : n ≤ 8) (hr : ∀ i, i < 8 → s.2.1 0 i = nI (ro i)) (hro : ∀ i, i < 8 → ro i < 2 ^ n) (hc : c < 2 ^ n) (h : OI n ro T c o) : ∃ z, X7_openPast_L2 s (nI c) k (nI 0) (nI 0) (nI o) = some z ∧ ∃ b o', z = (bI b, nI o') ∧ OI n ro T c o' ∧ (b = false → o' = o ∧ ∀ j, j < n → c.testBit j = false → ro j &&& o ≠ 0 → o.testBit j = true) ∧ (b = true → o < o') := by
  have p8 := pow8 h8
  exact loopInv0 (F := fun k i (z : Int32 × Int32) => X7_openPast_L2 s (nI c) k (nI i) z.1 z.2) (Q := fun z => ∃ b o', z = (bI b, nI o') ∧ OI n ro T c o' ∧ (b = false → o' = o ∧ ∀ j, j < n → c.testBit j = false → ro j &&& o ≠ 0 → o.testBit j = true) ∧ (b = true → o < o')) (fun i z => ∃ b o', z = (bI b, nI o') ∧ OI n ro T c o' ∧ (b = false → o' = o ∧ ∀ j, j < i → c.testBit j = false → ro j &&& o ≠ 0 → o.testBit j = true) ∧ (b = true → o < o')) n (fun j i z hi ⟨b, o', hz, g1, g2, g3⟩ => by
      subst hz
      have go := g1.1
      show ∃ z', _ ∧ X7_openPast_L2_b s (nI c) (X7_openPast_L2 s (nI c) j) (nI i) (bI b) (nI o') = _
      unfold X7_openPast_L2_b
      rw [hn, if_neg (by rw [nI_lep (by omega) (by omega)]; omega), X7_has_v (by omega) (by omega), bd_s]
      by_cases q1 : o'.testBit i = true
      · refine ⟨(bI b, nI o'), ⟨b, o', rfl, g1, fun hb => ⟨(g2 hb).1, fun j hj hcj hm => ?_⟩, g3⟩, ?_⟩
        · by_cases e : j = i
          · subst e; rw [(g2 hb).1] at q1; exact q1
          · exact (g2 hb).2 j (by omega) hcj hm
        · rw [ib_t q1, nm_u, nI_1]
      · rw [ib_f (by simpa using q1), X7_has_v (by omega) (by omega), bd_s]
        by_cases q2 : c.testBit i = true
        · refine ⟨(bI b, nI o'), ⟨b, o', rfl, g1, fun hb => ⟨(g2 hb).1, fun j hj hcj hm => ?_⟩, g3⟩, ?_⟩
          · by_cases e : j = i
            · subst e; rw [q2] at hcj; cases hcj
            · exact (g2 hb).2 j (by omega) hcj hm
          · rw [ib_t q2, nm_u, nI_1]
        · have hand := Nat.and_le_right (n := ro i) (m := o')
          rw [ib_f (by simpa using q2), inb_t (show i < 8 by omega) (by omega), gd_t, nI_clamp (by omega), hr i (by omega), nx_and]
          by_cases q3 : ro i &&& o' = 0
          · refine ⟨(bI b, nI o'), ⟨b, o', rfl, g1, fun hb => ⟨(g2 hb).1, fun j hj hcj hm => ?_⟩, g3⟩, ?_⟩
            · by_cases e : j = i
              · subst e; rw [(g2 hb).1] at q3; exact absurd q3 hm
              · exact (g2 hb).2 j (by omega) hcj hm
            · rw [if_pos (by rw [nI_eq0 (by omega)]; exact q3), nm_u, nI_1]
          · have gr := g1.grow hi (by simpa using q2) q3
            have hlt : o' < o' ||| 2 ^ i := lt_ne (sub_or_l _ _) fun z => q1 (by rw [z, Nat.testBit_or, tb_two]; simp)
            refine ⟨(bI true, nI (o' ||| 2 ^ i)), ⟨true, o' ||| 2 ^ i, rfl, gr, fun hb => (by cases hb), fun _ => ?_⟩, ?_⟩
            · cases b with
              | false => rw [(g2 rfl).1] at hlt ⊢; exact hlt
              | true => exact Nat.lt_trans (g3 rfl) hlt
            · rw [if_neg (by rw [nI_eq0 (by omega)]; exact q3)]
              simp only [nm_u, nI_1]
              rw [in_val (by omega)]
              rfl) (fun j z ⟨b, o', hz, g⟩ => by
      subst hz
      refine ⟨_, ?_, b, o', rfl, g⟩
      show X7_openPast_L2_b s (nI c) (X7_openPast_L2 s (nI c) j) (nI n) (bI b) (nI o') = _
      unfold X7_openPast_L2_b
      rw [hn, if_pos (by rw [nI_lep (by omega) (by omega)]; exact Nat.le_refl _)]) (k := k) (by omega) (a := ((0 : Int32), nI o)) ⟨false, o, rfl, h, fun _ => ⟨rfl, fun j hj => by omega⟩, fun hb => by cases hb⟩
theorem X7_openPast_v {k n T c : Nat} {s : ST} {ro : Nat → Nat} (hk : 300 < k) (hn : s.1 0 = nI n) (h8 : n ≤ 8) (hT : s.1 1 = nI T) (hT2 : T < 2 ^ n) (hr : ∀ i, i < 8 → s.2.1 0 i = nI (ro i)) (hro : ∀ i, i < 8 → ro i < 2 ^ n) (hc : c < 2 ^ n) : ∃ o, X7_openPast k s (nI c) = some (nI o) ∧ IsOpen n ro T c o ∧ o < 2 ^ n := by
  have p8 := pow8 h8
  have key : ∀ d o j, OI n ro T c o → 2 ^ n ≤ o + d → d < j → ∃ o', X7_openPast_L1 k s (nI c) j (1 : Int32) (nI o) = some (nI o') ∧ IsOpen n ro T c o' ∧ o' < 2 ^ n := by
    intro d
    induction d with
    | zero =>
      intro o j h1 h2 h3
      have := h1.1
      omega
    | succ d ih =>
      intro o j h1 h2 h3
      obtain ⟨j, rfl⟩ : ∃ i, j = i + 1 := ⟨j - 1, by omega⟩
      obtain ⟨j, rfl⟩ : ∃ i, j = i + 1 := ⟨j - 1, by omega⟩
      obtain ⟨z, e, b, o', hz, g1, g2, g3⟩ := openPast_L2 (k := k) (by omega) hn h8 hr hro hc h1
      subst hz
      show ∃ o', X7_openPast_L1_b k s (nI c) (X7_openPast_L1 k s (nI c) (j + 1)) (1 : Int32) (nI o) = _ ∧ _
      unfold X7_openPast_L1_b
      rw [if_neg (by decide), l0, e, bd_s]
      cases b with
      | false =>
        obtain ⟨r1, r2⟩ := g2 rfl
        subst r1
        refine ⟨o', ?_, ⟨⟨g1.2.1, r2⟩, g1.2.2.1, g1.2.2.2⟩, g1.1⟩
        show X7_openPast_L1_b k s (nI c) (X7_openPast_L1 k s (nI c) j) (bI false) (nI o') = _
        unfold X7_openPast_L1_b
        rw [ib_f rfl]
      | true => exact ih o' (j + 1) g1 (by have := g3 rfl; omega) (by omega)
  unfold X7_openPast
  have hd : dif T c < 2 ^ n := dif_lt hT2
  have h0 : OI n ro T c (dif T c) := ⟨hd, sub_rf _, fun i hi => by
    rw [dif_tb, Bool.and_eq_true] at hi
    rw [dif_tb, tb_all, hi.2, decide_eq_true (tb_lt hT2 hi.1)]; rfl, fun o' g => g.1⟩
  obtain ⟨o', e, g⟩ := key (2 ^ n) _ k h0 (by omega) (by omega)
  refine ⟨o', ?_, g⟩
  rw [nm_u, hT, nx_not, e, bd_s]
/-- the model's table -/
theorem XT.op {s : ST} {t : TB} (h : XT s 0 0 t) (hO : OKT t) {k c : Nat} (hk : 300 < k) (hc : c < 2 ^ tN t) : ∃ o, X7_openPast k s (nI c) = some (nI o) ∧ IsOpen (tN t) (tR t) (tT t) c o ∧ o < 2 ^ tN t :=
  X7_openPast_v hk h.1 hO.1.2 h.2.1 hO.2.1 h.2.2.2.1 (fun i hi => (hO.2.2.2.1 i hi).1) hc
/-- the reference's scratch: arrays 7 to 10 -/
def ScL (s s' : ST) : Prop := (∀ c, s'.1 c = s.1 c) ∧ (∀ c, c < 7 ∨ 10 < c → s'.2.1 c = s.2.1 c)
theorem ScL.rf (s : ST) : ScL s s := ⟨fun _ => rfl, fun _ _ => rfl⟩
theorem ScL.tr {a b c : ST} (h : ScL a b) (g : ScL b c) : ScL a c := ⟨fun j => (g.1 j).trans (h.1 j), fun j hj => (g.2 j hj).trans (h.2 j hj)⟩
theorem ScL.sA {s : ST} {c : Nat} {f : Nat → Int32} (h1 : 7 ≤ c) (h2 : c ≤ 10) : ScL s (sA s c f) := ⟨fun _ => rfl, fun j hj => by rw [st_AA, if_neg (by omega)]⟩
theorem XT.scL {s s' : ST} {t : TB} {p a : Nat} (h : XT s p a t) (q : ScL s s') (ha : a ≤ 3) : XT s' p a t := by
  obtain ⟨h1, h2, h3, h4, h5, h6⟩ := h
  refine ⟨?_, ?_, ?_, ?_, ?_, ?_⟩
  · rw [q.1]; exact h1
  · rw [q.1]; exact h2
  · rw [q.1]; exact h3
  · rw [q.2 a (by omega)]; exact h4
  · rw [q.2 _ (by omega)]; exact h5
  · rw [q.2 _ (by omega)]; exact h6
/-- the open posts past each set -/
def OpenOK (s : ST) (t : TB) : Prop := ∃ op : Nat → Nat, ∀ c, c < 2 ^ tN t → s.2.1 7 c = nI (op c) ∧ IsOpen (tN t) (tR t) (tT t) c (op c) ∧ op c < 2 ^ tN t
theorem X7_layCuts_v {k : Nat} {s : ST} {t : TB} (hk : 300 < k) (hX : XT s 0 0 t) (hO : OKT t) : ∃ s', X7_layCuts k s = some s' ∧ ScL s s' ∧ OpenOK s' t := by
  have p8 := pow8 hO.1.2
  have hp := Nat.two_pow_pos (tN t)
  have hop : ∃ op : Nat → Nat, ∀ c, c < 2 ^ tN t → ∀ s', ScL s s' → X7_openPast k s' (nI c) = some (nI (op c)) ∧ IsOpen (tN t) (tR t) (tT t) c (op c) ∧ op c < 2 ^ tN t := by
    refine ⟨fun c => if h : c < 2 ^ tN t then (hX.op hO hk h).choose else 0, fun c hc s' hs => ?_⟩
    simp only [hc, dif_pos]
    have q := (hX.op hO hk hc).choose_spec
    refine ⟨?_, q.2⟩
    obtain ⟨o', e1, e2, e3⟩ := (hX.scL hs (by omega)).op hO hk hc
    rw [e1]
    congr 2
    exact sub_anti (e2.2.2 _ q.2.1.1) (q.2.1.2.2 _ e2.1)
  obtain ⟨op, hop⟩ := hop
  refine ⟨sA s 7 (fl (s.2.1 7) (fun c => nI (op c)) (2 ^ tN t)), ?_, ScL.sA (by omega) (by omega), op, fun c hc => ⟨?_, (hop c hc s (ScL.rf s)).2⟩⟩
  · unfold X7_layCuts
    have h := loop0 (F := fun j i (z : ST) => X7_layCuts_L1 k j (nI i) z) (t := sA s 7 (fl (s.2.1 7) (fun c => nI (op c)) (2 ^ tN t))) (2 ^ tN t) (fun i => sA s 7 (fl (s.2.1 7) (fun c => nI (op c)) i)) (fun j i hi => by
        show X7_layCuts_L1_b k (X7_layCuts_L1 k j) (nI i) _ = _
        unfold X7_layCuts_L1_b
        rw [X7_all_v (show (sA s 7 _).1 0 = nI (tN t) from hX.1) hO.1.2, bd_s, if_neg (by rw [nI_ltp (by omega) (by omega)]; omega), (hop i hi _ (ScL.sA (by omega) (by omega))).1, bd_s, inb_t (show i < 256 by omega) (by omega), gd_t]
        simp only [nm_u, nI_clamp (show i < 2 ^ 31 by omega), nI_1, st_AA, if_true, sA_sA]
        rw [fl_u (s.2.1 7) (fun c => nI (op c)) i]) (fun j => by
        show X7_layCuts_L1_b k (X7_layCuts_L1 k j) (nI (2 ^ tN t)) _ = _
        unfold X7_layCuts_L1_b
        rw [X7_all_v (show (sA s 7 _).1 0 = nI (tN t) from hX.1) hO.1.2, bd_s, if_pos (by rw [nI_ltp (by omega) (by omega)]; omega)]) (k := k) (by omega)
    rw [fl_0, sA_id] at h
    rw [l0, h, bd_s]
  · rw [st_AA, if_pos rfl, fl_in hc]
theorem nI_m1' {a : Nat} (h : 0 < a) : nI a + (-1 : Int32) = nI (a - 1) := by
  rw [← nI_m1 h]
  rw [Int32.sub_eq_add_neg]
/-- the reference's cut: the least by number of posts, then by bits -/
theorem X7_cutOf_v {k x : Nat} {s : ST} {t : TB} {op : Nat → Nat} (hk : 300 < k) (hn : s.1 0 = nI (tN t)) (h8 : tN t ≤ 8) (hop : ∀ c, c < 2 ^ tN t → s.2.1 7 c = nI (op c) ∧ IsOpen (tN t) (tR t) (tT t) c (op c) ∧ op c < 2 ^ tN t) (hx : x < 2 ^ tN t) : ∃ c, X7_cutOf k s (nI x) = some (nI c) ∧ IsLeastCut (tN t) op x c ∧ ∀ d, d < 2 ^ tN t → x &&& op d = 0 → pc d = pc c → c ≤ d := by
  have p8 := pow8 h8
  have hp := Nat.two_pow_pos (tN t)
  have hself : x &&& op x = 0 := and_0.mpr fun i hi => by
    cases q : (op x).testBit i with
    | false => rfl
    | true =>
      have := (hop x hx).2.1.2.1 i q
      rw [dif_tb, hi] at this
      simp at this
  unfold X7_cutOf
  rw [X7_all_v hn h8, bd_s]
  obtain ⟨z, e, c, hz, h1, h2, h3⟩ := loopInv0 (F := fun j a (z : Int32) => X7_cutOf_L1 s (nI x) j (nI (2 ^ tN t - a) + (-1 : Int32)) z) (Q := fun z => ∃ c, z = nI c ∧ c < 2 ^ tN t ∧ x &&& op c = 0 ∧ ∀ d, d < 2 ^ tN t → x &&& op d = 0 → pc c ≤ pc d ∧ (pc d = pc c → c ≤ d)) (fun a z => ∃ c, z = nI c ∧ c < 2 ^ tN t ∧ x &&& op c = 0 ∧ ∀ d, 2 ^ tN t - a ≤ d → d < 2 ^ tN t → x &&& op d = 0 → pc c ≤ pc d ∧ (pc d = pc c → c ≤ d)) (2 ^ tN t) (fun j a z ha ⟨c, hz, g1, g2, g3⟩ => by
      subst hz
      obtain ⟨d, hd⟩ : ∃ d, 2 ^ tN t - a = d + 1 := ⟨2 ^ tN t - a - 1, by omega⟩
      have hd' : 2 ^ tN t - (a + 1) = d := by omega
      obtain ⟨o1, o2, o3⟩ := hop d (by omega)
      have hand := Nat.and_le_left (n := x) (m := op d)
      show ∃ z', _ ∧ X7_cutOf_L1_b s (nI x) (X7_cutOf_L1 s (nI x) j) _ (nI c) = _
      rw [hd, nI_m1' (by omega), hd', show d + 1 - 1 = d by omega]
      unfold X7_cutOf_L1_b
      rw [if_neg (by rw [l0, nI_ltp (by omega) (by omega)]; omega), inb_t (show d < 256 by omega) (by omega), gd_t, nI_clamp (by omega), o1, nx_and]
      by_cases q : x &&& op d = 0
      · rw [if_pos (by rw [nI_eq0 (by omega)]; exact q), J6_bit_all _ (by omega), bd_s, J6_bit_all _ (by omega), bd_s]
        have l1 := pc_le8 c
        have l2 := pc_le8 d
        by_cases r : pc c < pc d
        · refine ⟨nI c, ⟨c, rfl, g1, g2, fun d' h1 h2 h3 => ?_⟩, ?_⟩
          · by_cases e : d' = d
            · subst e; exact ⟨by omega, fun z => by omega⟩
            · exact g3 d' (by omega) h2 h3
          · rw [if_pos (by rw [nI_ltp (by omega) (by omega)]; exact r), nm_u]
        · refine ⟨nI d, ⟨d, rfl, by omega, q, fun d' h1 h2 h3 => ?_⟩, ?_⟩
          · by_cases e : d' = d
            · subst e; exact ⟨by omega, fun z => by omega⟩
            · have := g3 d' (by omega) h2 h3
              exact ⟨by omega, fun _ => by omega⟩
          · rw [if_neg (by rw [nI_ltp (by omega) (by omega)]; exact r), nm_u]
      · refine ⟨nI c, ⟨c, rfl, g1, g2, fun d' h1 h2 h3 => ?_⟩, ?_⟩
        · by_cases e : d' = d
          · subst e; exact absurd h3 q
          · exact g3 d' (by omega) h2 h3
        · rw [if_neg (by rw [nI_eq0 (by omega)]; exact q), nm_u]) (fun j z ⟨c, hz, g1, g2, g3⟩ => by
      subst hz
      refine ⟨_, ?_, c, rfl, g1, g2, fun d hd h => g3 d (by omega) hd h⟩
      show X7_cutOf_L1_b s (nI x) (X7_cutOf_L1 s (nI x) j) _ (nI c) = _
      unfold X7_cutOf_L1_b
      rw [show 2 ^ tN t - 2 ^ tN t = 0 by omega, if_pos (by decide)]) (k := k) (by omega) (a := nI x) ⟨x, rfl, hx, hself, fun d h1 h2 => by omega⟩
  subst hz
  rw [show 2 ^ tN t - 0 = 2 ^ tN t by omega, nI_m1' hp] at e
  exact ⟨c, by rw [e, bd_s], ⟨h1, h2, fun d hd h => (h3 d hd h).1⟩, fun d hd h => (h3 d hd h).2⟩
