/-! PURE 29: partners -/
/-- the posts of a set, in order -/
def its (x : Nat) : Nat → Nat × (Nat → Nat)
  | 0 => (0, fun _ => 0)
  | i + 1 => if x.testBit i = true then ((its x i).1 + 1, up1 (its x i).2 (its x i).1 i) else its x i
theorem its_s (x i : Nat) : its x (i + 1) = if x.testBit i = true then ((its x i).1 + 1, up1 (its x i).2 (its x i).1 i) else its x i := rfl
theorem its_le (x : Nat) : ∀ {i : Nat}, (its x i).1 ≤ i
  | 0 => Nat.le_refl _
  | i + 1 => by
    have ih := its_le x (i := i)
    rw [its_s]
    split
    · show (its x i).1 + 1 ≤ i + 1; omega
    · omega
theorem its_up (x : Nat) {i : Nat} : ∀ {n : Nat}, i ≤ n → (its x i).1 ≤ (its x n).1 ∧ ∀ c, c < (its x i).1 → (its x n).2 c = (its x i).2 c
  | 0, h => by rw [show i = 0 by omega]; exact ⟨Nat.le_refl _, fun _ _ => rfl⟩
  | n + 1, h => by
    by_cases e : i = n + 1
    · rw [e]; exact ⟨Nat.le_refl _, fun _ _ => rfl⟩
    · obtain ⟨h1, h2⟩ := its_up x (i := i) (n := n) (by omega)
      rw [its_s]
      split
      · refine ⟨by show _ ≤ (its x n).1 + 1; omega, fun c hc => ?_⟩
        show up1 (its x n).2 (its x n).1 n c = _
        unfold up1
        rw [if_neg (by omega)]
        exact h2 c hc
      · exact ⟨h1, h2⟩
/-- each item is a post of the set, at its place -/
theorem its_at (x : Nat) : ∀ {n c : Nat}, c < (its x n).1 → ∃ i, i < n ∧ x.testBit i = true ∧ (its x i).1 = c ∧ (its x n).2 c = i
  | 0, c, h => absurd h (Nat.not_lt_zero c)
  | n + 1, c, h => by
    rw [its_s] at h ⊢
    by_cases q : x.testBit n = true
    · rw [if_pos q] at h ⊢
      have h : c < (its x n).1 + 1 := h
      by_cases e : c = (its x n).1
      · refine ⟨n, by omega, q, e.symm, ?_⟩
        show up1 (its x n).2 (its x n).1 n c = n
        unfold up1
        rw [if_pos e]
      · obtain ⟨i, i1, i2, i3, i4⟩ := its_at x (n := n) (c := c) (by omega)
        refine ⟨i, by omega, i2, i3, ?_⟩
        show up1 (its x n).2 (its x n).1 n c = i
        unfold up1
        rw [if_neg e]; exact i4
    · rw [if_neg q] at h ⊢
      obtain ⟨i, i1, i2, i3, i4⟩ := its_at x (n := n) (c := c) h
      exact ⟨i, by omega, i2, i3, i4⟩
def hib (x i : Nat) : Nat := dif x (2 ^ i - 1)
theorem hib_tb (x i j : Nat) : (hib x i).testBit j = (x.testBit j && !decide (j < i)) := by unfold hib; rw [dif_tb, tb_all]
theorem hib_0 (x : Nat) : hib x 0 = x := tb_ext fun j => by rw [hib_tb]; simp
theorem hib_s1 {x i : Nat} (h : x.testBit i = true) : hib x (i + 1) = dif (hib x i) (2 ^ i) := tb_ext fun j => by
  rw [dif_tb, hib_tb, hib_tb, tb_two]
  by_cases e : i = j
  · subst e; simp
  · by_cases q : j < i
    · simp [q, Nat.lt_succ_of_lt q]
    · simp [e, q, show ¬ j < i + 1 by omega]
theorem hib_s0 {x i : Nat} (h : x.testBit i = false) : hib x (i + 1) = hib x i := tb_ext fun j => by
  rw [hib_tb, hib_tb]
  by_cases e : j = i
  · subst e; simp [h]
  · by_cases q : j < i
    · simp [q, Nat.lt_succ_of_lt q]
    · simp [q, show ¬ j < i + 1 by omega]
/-- what is left after c items -/
def rmi (x : Nat) (P : Nat → Nat) : Nat → Nat
  | 0 => x
  | c + 1 => dif (rmi x P c) (2 ^ P c)
theorem rmi_s (x : Nat) (P : Nat → Nat) (c : Nat) : rmi x P (c + 1) = dif (rmi x P c) (2 ^ P c) := rfl
theorem rmi_at (x n : Nat) : ∀ {i : Nat}, i ≤ n → rmi x (its x n).2 (its x i).1 = hib x i
  | 0, _ => (hib_0 x).symm
  | i + 1, h => by
    have ih := rmi_at x n (i := i) (by omega)
    rw [its_s]
    by_cases q : x.testBit i = true
    · rw [if_pos q, hib_s1 q, ← ih]
      show rmi x (its x n).2 ((its x i).1 + 1) = _
      rw [rmi_s]
      have g := (its_up x (i := i + 1) (n := n) (by omega)).2 (its x i).1 (by rw [its_s, if_pos q]; exact Nat.lt_succ_self _)
      rw [its_s, if_pos q] at g
      rw [g]
      show dif _ (2 ^ up1 (its x i).2 (its x i).1 i (its x i).1) = _
      rw [show up1 (its x i).2 (its x i).1 i (its x i).1 = i from if_pos rfl]
    · rw [if_neg q, hib_s0 (by simpa using q), ih]
theorem rmi_0 {x : Nat} {P : Nat → Nat} {m : Nat} (h : rmi x P m = 0) : ∀ {c : Nat}, m ≤ c → rmi x P c = 0
  | 0, q => by rw [show m = 0 by omega] at h; exact h
  | c + 1, q => by
    by_cases e : m = c + 1
    · rw [← e]; exact h
    · rw [rmi_s, rmi_0 h (c := c) (by omega)]
      exact tb_ext fun j => by rw [dif_tb, Nat.zero_testBit]; rfl
theorem rmi_lt {x n : Nat} {P : Nat → Nat} (hx : x < 2 ^ n) : ∀ {c : Nat}, rmi x P c < 2 ^ n
  | 0 => hx
  | c + 1 => by rw [rmi_s]; exact dif_lt (rmi_lt hx)
theorem hib_n {x n : Nat} (hx : x < 2 ^ n) : hib x n = 0 := tb_ext fun j => by
  rw [hib_tb, Nat.zero_testBit]
  by_cases q : j < n
  · simp [q]
  · rw [tb_big hx (by omega)]; rfl
theorem mk_wo (A : Nat → Nat) (u j : Nat) : wo (mk A u) j = mk A (u ||| 2 ^ j) := funext fun i => by
  unfold wo mk
  rw [Nat.testBit_or, tb_two]
  by_cases e : i = j
  · subst e; simp
  · simp [e, Ne.symm e]
theorem mt_0 {A : Nat → Nat} {k : Nat} : mt A k 0 = true := by
  have := mt_up (A := A) (k := 0) (m := k) (x := 0) rfl
  rw [Nat.zero_add] at this
  exact this
/-- the options of each item, and what must be left -/
def pA (F : Nat → Nat) (k : Nat) (P : Nat → Nat) (c : Nat) : Nat := bld (fun j => (F j).testBit (P c)) k
def pE (F : Nat → Nat) (k x : Nat) (P : Nat → Nat) (u : Nat) : Bool := mt (mk F u) k (rmi x P (pc u))
theorem okv_p (F : Nat → Nat) (k x : Nat) (P : Nat → Nat) (c u j : Nat) : okv (pA F k P) (pE F k x P) c u j = ((decide (j < k) && (F j).testBit (P c)) && (!u.testBit j && mt (mk F (u ||| 2 ^ j)) k (rmi x P (pc (u ||| 2 ^ j))))) := by
  rw [show okv (pA F k P) (pE F k x P) c u j = ((bld (fun j => (F j).testBit (P c)) k).testBit j && (!u.testBit j && mt (mk F (u ||| 2 ^ j)) k (rmi x P (pc (u ||| 2 ^ j))))) from rfl, bld_tb]
theorem ib_fz {α : Type} {b : Bool} {x y : α} (h : b = false) : (if bI b = nI 0 then x else y) = x := ib_f h
theorem ib_tz {α : Type} {b : Bool} {x y : α} (h : b = true) : (if bI b = nI 0 then x else y) = y := ib_t h
theorem partners_ends {F : Nat → Nat} {k x n : Nat} (h8 : n ≤ 8) (hk : k ≤ 8) (hx : x < 2 ^ n) : EndsOK (pA F k (its x n).2) (pE F k x (its x n).2) (its x n).1 k := by
  intro u hu
  have z := rmi_at x n (Nat.le_refl n)
  rw [hib_n hx] at z
  refine ⟨fun h => ?_, fun h => ?_⟩
  · unfold pE
    rw [rmi_0 z h]
    exact mt_0
  · obtain ⟨i, i1, i2, i3, i4⟩ := its_at x h
    have r := rmi_at x n (i := i) (by omega)
    rw [i3] at r
    have hi : (rmi x (its x n).2 (pc u)).testBit i = true := by rw [r, hib_tb, i2]; simp
    rw [show pE F k x (its x n).2 u = mt (mk F u) k (rmi x (its x n).2 (pc u)) from rfl, mt_step (show i < 8 by omega) hi]
    have nx : rmi x (its x n).2 (pc u + 1) = dif (rmi x (its x n).2 (pc u)) (2 ^ i) := by rw [rmi_s, i4]
    constructor
    · rintro ⟨j, j1, j2, j3⟩
      refine ⟨j, j1, ?_⟩
      have uj : u.testBit j = false := by
        cases q : u.testBit j with
        | false => rfl
        | true => rw [show mk F u j = 0 from if_pos q, Nat.zero_testBit] at j2; cases j2
      rw [show mk F u j = F j from if_neg (by rw [uj]; decide)] at j2
      rw [okv_p, decide_eq_true j1, i4, j2, uj, pc_add (by omega) uj, nx, ← mk_wo, j3]
      rfl
    · rintro ⟨j, j1, j2⟩
      rw [okv_p, decide_eq_true j1, Bool.true_and, i4, Bool.and_eq_true, Bool.and_eq_true, Bool.not_eq_true'] at j2
      obtain ⟨a1, a2, a3⟩ := j2
      rw [pc_add (by omega) a2, nx, ← mk_wo] at a3
      exact ⟨j, j1, by rw [show mk F u j = F j from if_neg (by rw [a2]; decide)]; exact a1, a3⟩
theorem setsWith_v {N i : Nat} {s : ST} {t : TB} (hN : 300 < N) (hO : OKT t) (hX : XT s 1 0 t) (hi : i < 8) : X4_setsWith N s (nI i) = some (nI (bld (fun j => (tF t j).testBit i) (tK t))) := by
  have p8 := hO.p8
  have hK := hO.2.2.1
  have h := loop0 (F := fun k j v => X4_setsWith_L1 s (nI i) k (nI j) v) (t := nI (bld (fun j => (tF t j).testBit i) (tK t))) (tK t) (fun j => nI (bld (fun j => (tF t j).testBit i) j)) (fun k j hj => by
      show X4_setsWith_L1_b s (nI i) (X4_setsWith_L1 s (nI i) k) (nI j) _ = _
      unfold X4_setsWith_L1_b
      have fj := hO.2.2.2.2.2 j hj
      rw [hX.2.2.1, if_neg (by rw [nI_lep (by omega) (by omega)]; omega), inb_t (show j < 8 by omega) (by omega), gd_t, nI_clamp (by omega), hX.2.2.2.2.2 j hj, X6_has_v (by omega) (by omega), bd_s, bld_s]
      by_cases q : (tF t j).testBit i = true
      · rw [ib_t q, if_pos q, in_val (by omega)]
        simp only [nm_u, nI_1]
      · rw [ib_f (by simpa using q), if_neg q]
        simp only [nm_u, nI_1]) (fun k => by
      show X4_setsWith_L1_b s (nI i) (X4_setsWith_L1 s (nI i) k) (nI (tK t)) _ = _
      unfold X4_setsWith_L1_b
      rw [hX.2.2.1, if_pos (by rw [nI_lep (by omega) (by omega)]; exact Nat.le_refl _)]) (k := N) (by omega)
  unfold X4_setsWith
  rw [show nI (bld (fun j => (tF t j).testBit i) 0) = nI 0 from rfl] at h
  rw [l0, h, bd_s]
theorem ask_v {s : ST} {c x : Nat} (hs : s.1 10 = nI c) (hc : c < 8) : X0_ask s (nI x) = some (sI (sA s 9 (upd (s.2.1 9) c (nI x))) 10 (nI (c + 1))) := by
  unfold X0_ask
  rw [hs, if_pos (by rw [l8, nI_ltp (by omega) (by omega)]; omega), inb_t (show c < 8 from hc) (by omega), gd_t, nI_clamp (by omega)]
  simp only [nm_u, st_AI]
  rw [hs, nI_1]
theorem partners_items {N x : Nat} {s : ST} {t : TB} (hN : 300 < N) (hO : OKT t) (hX : XT s 1 0 t) (hx : x < 2 ^ tN t) : ∃ f, X6_partners_L1 N (nI x) N (nI 0) (sI s 10 (nI 0)) = some (sA (sI s 10 (nI (its x (tN t)).1)) 9 f) ∧ ∀ c, c < (its x (tN t)).1 → f c = nI (pA (tF t) (tK t) (its x (tN t)).2 c) := by
  have p8 := hO.p8
  have h8 := hO.1
  obtain ⟨z, e, f, hz, hf⟩ := loopInv0 (F := fun k i (z : ST) => X6_partners_L1 N (nI x) k (nI i) z) (Q := fun z => ∃ f, z = sA (sI s 10 (nI (its x (tN t)).1)) 9 f ∧ ∀ c, c < (its x (tN t)).1 → f c = nI (pA (tF t) (tK t) (its x (tN t)).2 c)) (fun i z => ∃ f, z = sA (sI s 10 (nI (its x i).1)) 9 f ∧ ∀ c, c < (its x i).1 → f c = nI (pA (tF t) (tK t) (its x i).2 c)) (tN t) (fun k i z hi ⟨f, hz, hf⟩ => by
    subst hz
    have le := its_le x (i := i)
    have hXi : XT (sA (sI s 10 (nI (its x i).1)) 9 f) 1 0 t := hX.cg rfl rfl rfl rfl rfl rfl
    show ∃ z', _ ∧ X6_partners_L1_b N (nI x) (X6_partners_L1 N (nI x) k) (nI i) _ = _
    unfold X6_partners_L1_b
    rw [hXi.1, if_neg (by rw [nI_lep (by omega) (by omega)]; omega), X6_has_v (by omega) (by omega), bd_s, its_s]
    by_cases q : x.testBit i = true
    · rw [if_pos q, ib_t q, setsWith_v hN hO hXi (by omega), bd_s, ask_v (show (sA (sI s 10 (nI (its x i).1)) 9 f).1 10 = nI (its x i).1 from rfl) (by omega), bd_s]
      refine ⟨_, ⟨upd f (its x i).1 (nI (bld (fun j => (tF t j).testBit i) (tK t))), ?_, fun c hc => ?_⟩, by simp only [nm_u, nI_1]; rfl⟩
      · refine st_eq (fun c => ?_) (fun c => ?_) (fun _ => rfl)
        · simp only [st_II, st_AI]
          by_cases c10 : c = 10
          · subst c10; rfl
          · simp [c10]
        · simp only [st_IA, st_AA]
          by_cases c9 : c = 9
          · subst c9; simp
          · simp [c9]
      · have hc : c < (its x i).1 + 1 := hc
        show upd f (its x i).1 (nI (bld (fun j => (tF t j).testBit i) (tK t))) c = nI (pA (tF t) (tK t) (up1 (its x i).2 (its x i).1 i) c)
        unfold pA
        rw [upd_q]
        by_cases w : c = (its x i).1
        · rw [if_pos w, show up1 (its x i).2 (its x i).1 i c = i from if_pos w]
        · rw [if_neg w, show up1 (its x i).2 (its x i).1 i c = (its x i).2 c from if_neg w]
          exact hf c (by omega)
    · rw [if_neg q, ib_f (by simpa using q)]
      exact ⟨_, ⟨f, rfl, hf⟩, by rw [nm_u, nI_1]⟩) (fun k z ⟨f, hz, hf⟩ => by
    subst hz
    refine ⟨_, ?_, f, rfl, hf⟩
    show X6_partners_L1_b N (nI x) (X6_partners_L1 N (nI x) k) (nI (tN t)) _ = _
    unfold X6_partners_L1_b
    rw [show (sA (sI s 10 (nI (its x (tN t)).1)) 9 f).1 1 = nI (tN t) from hX.1, if_pos (by rw [nI_lep (by omega) (by omega)]; exact Nat.le_refl _)]) (k := N) (by omega) (a := sI s 10 (nI 0)) ⟨(sI s 10 (nI 0)).2.1 9, (sA_id (sI s 10 (nI 0)) 9).symm, fun c hc => absurd hc (Nat.not_lt_zero c)⟩
  subst hz
  exact ⟨f, e, hf⟩
theorem canHave_v {N y u : Nat} {s : ST} {t : TB} (hN : 300 < N) (hO : OKT t) (hU : XT s 0 0 t) (hy : y < 2 ^ tN t) (hu : u < 256) : X7_canHave N s (nI y) (nI u) = some (bI (mt (mk (tF t) u) (tK t) y)) := by
  have p8 := hO.p8
  have hK := hO.2.2.1
  have hp := Nat.two_pow_pos (tN t)
  have h := loopSearch (F := fun k w => X7_canHave_L1 N s (nI y) (nI u) k (nI w)) (2 ^ tN t) (fun w => decide (dif w y = 0) && !decide (pc w ≤ cv (mk (tF t) u) (tK t) w)) (fun _ => Sum.inl (0 : Int32)) (Sum.inr ()) (fun k w hw => by
    show X7_canHave_L1_b N s (nI y) (nI u) (X7_canHave_L1 N s (nI y) (nI u) k) (nI w) = _
    unfold X7_canHave_L1_b
    have hd := sub_le (sub_dif w y)
    have hl := pc_le8 w
    have hc := cv_le (A := mk (tF t) u) (k := tK t) (w := w)
    rw [X7_all_v hU.1 hO.1.2, bd_s, if_neg (by rw [nI_ltp (by omega) (by omega)]; omega), nx_not]
    by_cases q : dif w y = 0
    · rw [if_pos (by rw [nI_eq0 (by omega)]; exact q), X7_meeting_v (by omega) hU.2.2.1 hK hU.2.2.2.2.2 (by omega) hu, bd_s, J6_bit_all _ (by omega), bd_s, decide_eq_true q]
      by_cases g : pc w ≤ cv (mk (tF t) u) (tK t) w
      · rw [if_pos (by rw [nI_lep (by omega) (by omega)]; exact g), decide_eq_true g, nm_u, nI_1]; rfl
      · rw [if_neg (by rw [nI_lep (by omega) (by omega)]; exact g), decide_eq_false g]; rfl
    · rw [if_neg (by rw [nI_eq0 (by omega)]; exact q), decide_eq_false q, nm_u, nI_1]; rfl) (fun k => by
    show X7_canHave_L1_b N s (nI y) (nI u) (X7_canHave_L1 N s (nI y) (nI u) k) (nI (2 ^ tN t)) = _
    unfold X7_canHave_L1_b
    rw [X7_all_v hU.1 hO.1.2, bd_s, if_pos (by rw [nI_ltp (by omega) (by omega)]; omega)]) (k := N) (by omega)
  have d0 : ∀ w, dif w y = 0 ↔ sub w y := fun w => ⟨fun q i hi => by
    have := congrArg (fun z => z.testBit i) q
    rw [dif_tb, hi, Nat.zero_testBit] at this
    simpa using this, fun q => tb_ext fun i => by
    rw [dif_tb, Nat.zero_testBit]
    cases g : w.testBit i with
    | false => rfl
    | true => rw [q i g]; rfl⟩
  have hi := mt_iff (A := mk (tF t) u) (k := tK t) (x := y) (by omega)
  unfold X7_canHave
  rw [l0]
  rcases h with ⟨w, w1, w2, -, e⟩ | ⟨w1, e⟩
  · rw [e, bd_s]
    rw [Bool.and_eq_true, decide_eq_true_iff, Bool.not_eq_true', decide_eq_false_iff_not] at w2
    have : mt (mk (tF t) u) (tK t) y = false := by
      cases q : mt (mk (tF t) u) (tK t) y with
      | false => rfl
      | true => exact absurd (hi.mp q w ((d0 w).mp w2.1)) w2.2
    rw [this]; rfl
  · rw [e, bd_s]
    have : mt (mk (tF t) u) (tK t) y = true := hi.mpr fun w hw => by
      have := w1 w (sub_lt hw hy)
      rw [decide_eq_true ((d0 w).mpr hw)] at this
      simpa using this
    rw [this]; rfl
def nbr (g : Nat → Nat) : Nat → Nat
  | 0 => 0
  | c + 1 => nbr g c * 10 + g c + 1
theorem nbr_s (g : Nat → Nat) (c : Nat) : nbr g (c + 1) = nbr g c * 10 + g c + 1 := rfl
theorem case_partners {k N : Nat} {s u : ST} (h : Inv k s u) (hN : 300 < N) (v : Int32) : ∃ r s', X6_partners N s v = some (r, s') ∧ X7_partners N u v = some r ∧ Inv (k + 1) s' u := by
  obtain ⟨t, hO, hX, hU⟩ := h.tab
  have p8 := hO.p8
  have h8 := hO.1
  have hK := hO.2.2.1
  unfold X6_partners X7_partners
  rw [(isSet_2 hO hX hU v).1, (isSet_2 hO hX hU v).2, bd_s, bd_s]
  refine bc (b := inR v (2 ^ tN t)) (fun q => ⟨_, _, by rw [ib_f q], by rw [ib_f q], h.mono⟩) fun q => ?_
  obtain ⟨x, hx, rfl⟩ := inR_t q (by omega)
  obtain ⟨f, e1, hf⟩ := partners_items (N := N) hN hO hX hx
  have le := its_le x (i := tN t)
  obtain ⟨s', e2, p1, p2, p3, p4⟩ := isMade_v (N := N) (m := (its x (tN t)).1) (c := tK t) (s := sA (sI s 10 (nI (its x (tN t)).1)) 9 f) (A := pA (tF t) (tK t) (its x (tN t)).2) (E := pE (tF t) (tK t) x (its x (tN t)).2) hN hK (by omega) rfl (fun c hc => ⟨by rw [st_AA, if_pos rfl]; exact hf c hc, Nat.lt_of_lt_of_le bld_lt (pow8 hK)⟩) (partners_ends h8.2 hK hx)
  have inv : Inv (k + 1) s' u := by
    refine h.ask ⟨fun c h9 h10 => ?_, fun c hc => ?_⟩ (ScM.rf u) fun t ch a1 a2 a3 a4 a5 => ?_
    · rw [p1, st_AI, st_II, if_neg h10.1]
    · rw [p2 c (by omega) (by omega), st_AA, if_neg (by omega)]; rfl
    · unfold RKc RanksOK MB10 at a3 ⊢
      rw [p1, p2 6 (by omega) (by omega), p2 7 (by omega) (by omega), p3]
      exact a3
  have E0 : pE (tF t) (tK t) x (its x (tN t)).2 0 = mt (mk (tF t) 0) (tK t) x := by
    unfold pE
    rw [pc_0]; rfl
  rw [ib_t q, ib_t q, l0, canHave_v hN hO hU hx (by omega), bd_s]
  unfold X0_begin
  rw [nm_u, bd_s, l0, e1, bd_s, show (sA (sI s 10 (nI (its x (tN t)).1)) 9 f).1 3 = nI (tK t) from hX.2.2.1, e2, bd2_s, E0]
  refine bc (b := mt (mk (tF t) 0) (tK t) x) (fun w => ⟨_, _, by rw [ib_fz w], by rw [ib_fz w], inv⟩) fun w => ?_
  rw [ib_tz w, ib_tz w]
  obtain ⟨g, hg, hc⟩ := p4 (by rw [E0]; exact w)
  have a := loop0 (F := fun k i v => X6_partners_L2 s' k (nI i) v) (t := nI (nbr g (its x (tN t)).1)) (its x (tN t)).1 (fun i => nI (nbr g i)) (fun k i hi => by
    show X6_partners_L2_b s' (X6_partners_L2 s' k) (nI i) _ = _
    unfold X6_partners_L2_b
    rw [show s'.1 10 = nI (its x (tN t)).1 by rw [p1]; rfl, if_neg (by rw [nI_lep (by omega) (by omega)]; omega), inb_t (show i < 8 by omega) (by omega), gd_t, nI_clamp (by omega), hc i hi, show (10 : Int32) = nI 10 from rfl, pk_mul, nI_add, nI_1, nbr_s]
    simp only [nm_u, nI_1]) (fun k => by
    show X6_partners_L2_b s' (X6_partners_L2 s' k) (nI (its x (tN t)).1) _ = _
    unfold X6_partners_L2_b
    rw [show s'.1 10 = nI (its x (tN t)).1 by rw [p1]; rfl, if_pos (by rw [nI_lep (by omega) (by omega)]; exact Nat.le_refl _)]) (k := N) (by omega)
  have b := loop0 (F := fun k i (z : Int32 × Int32 × Int32) => X7_partners_L1 N u (nI x) k (nI i) z.1 z.2.1 z.2.2) (t := nI (nbr g (its x (tN t)).1)) (tN t) (fun i => (nI (hib x i), nI (us g (its x i).1), nI (nbr g (its x i).1))) (fun k i hi => by
    show X7_partners_L1_b N u (nI x) (X7_partners_L1 N u (nI x) k) (nI i) (nI (hib x i)) (nI (us g (its x i).1)) (nI (nbr g (its x i).1)) = X7_partners_L1 N u (nI x) k (nI (i + 1)) (nI (hib x (i + 1))) (nI (us g (its x (i + 1)).1)) (nI (nbr g (its x (i + 1)).1))
    unfold X7_partners_L1_b
    rw [hU.1, if_neg (by rw [nI_lep (by omega) (by omega)]; omega), X7_has_v (by omega) (by omega), bd_s]
    by_cases q : x.testBit i = true
    · have up := (its_up x (i := i + 1) (n := tN t) (by omega))
      rw [its_s, if_pos q] at up
      have cm : (its x i).1 < (its x (tN t)).1 := up.1
      have pci : (its x (tN t)).2 (its x i).1 = i := by rw [up.2 _ (Nat.lt_succ_self _)]; exact if_pos rfl
      obtain ⟨gc, gf⟩ := hg _ cm
      have hg' : ∀ j, j < (its x i).1 → g j < tK t ∧ IsFst (okv (pA (tF t) (tK t) (its x (tN t)).2) (pE (tF t) (tK t) x (its x (tN t)).2) j (us g j)) (g j) := fun j hj => hg j (by omega)
      have ul := us_lt (fun j hj => (hg' j hj).1)
      have upc := us_pc hK hg'
      have k8 := pow8 hK
      have rm1 : rmi x (its x (tN t)).2 ((its x i).1 + 1) = hib x (i + 1) := by
        have := rmi_at x (tN t) (i := i + 1) (by omega)
        rw [its_s, if_pos q] at this
        exact this
      have hl : hib x (i + 1) < 2 ^ tN t := dif_lt hx
      have inner := loopFirst (F := fun k j => X7_partners_L2 N u (nI (hib x (i + 1))) (nI i) (nI (us g (its x i).1)) k (nI j)) (m := g (its x i).1) (okv (pA (tF t) (tK t) (its x (tN t)).2) (pE (tF t) (tK t) x (its x (tN t)).2) (its x i).1 (us g (its x i).1)) (fun j => nI j) gf.1 gf.2 (fun k j hj => by
        show X7_partners_L2_b N u (nI (hib x (i + 1))) (nI i) (nI (us g (its x i).1)) (X7_partners_L2 N u (nI (hib x (i + 1))) (nI i) (nI (us g (its x i).1)) k) (nI j) = _
        unfold X7_partners_L2_b
        have fj := hO.2.2.2.2.2 j (by omega)
        rw [X7_has_v (by omega) (by omega), bd_s]
        rw [okv_p, decide_eq_true (show j < tK t by omega), pci, Bool.true_and]
        cases q1 : (us g (its x i).1).testBit j with
        | true => rw [ib_t rfl, nm_u, nI_1]; cases (tF t j).testBit i <;> rfl
        | false =>
          rw [ib_f rfl, inb_t (show j < 8 by omega) (by omega), gd_t, nI_clamp (by omega), hU.2.2.2.2.2 j (by omega), X7_has_v (by omega) (by omega), bd_s]
          cases q2 : (tF t j).testBit i with
          | false => rw [ib_f rfl, nm_u, nI_1]; rfl
          | true =>
            have ulj := or_two_lt ul (show j < tK t by omega)
            rw [ib_t rfl, in_val (by omega), canHave_v hN hO hU hl (by omega), bd_s]
            rw [pc_add (by omega) q1, upc, rm1]
            cases mt (mk (tF t) (us g (its x i).1 ||| 2 ^ j)) (tK t) (hib x (i + 1)) with
            | false => rw [ib_f rfl, nm_u, nI_1]; rfl
            | true => rw [ib_t rfl]; rfl) (k := N) (by omega)
      rw [ib_t q, no_val (by omega), ← hib_s1 q, nm_u, l0, inner, bd_s, in_val (by omega), show (10 : Int32) = nI 10 from rfl, pk_mul, nI_add, its_s, if_pos q]
      simp only [nm_u, nI_1]
      rw [us_s, nbr_s, Nat.mul_comm 10]
    · have q' : x.testBit i = false := by simpa using q
      rw [ib_f q', nm_u, nI_1, hib_s0 q', its_s, if_neg q]) (fun k => by
    show X7_partners_L1_b N u (nI x) (X7_partners_L1 N u (nI x) k) (nI (tN t)) (nI (hib x (tN t))) (nI (us g (its x (tN t)).1)) (nI (nbr g (its x (tN t)).1)) = _
    unfold X7_partners_L1_b
    rw [hU.1, if_pos (by rw [nI_lep (by omega) (by omega)]; exact Nat.le_refl _)]) (k := N) (by omega)
  rw [hib_0, show (its x 0).1 = 0 from rfl, show us g 0 = 0 from rfl, show nbr g 0 = 0 from rfl] at b
  rw [show nbr g 0 = 0 from rfl] at a
  rw [a, bd_s, b, bd_s]
  exact ⟨_, _, rfl, rfl, inv⟩
