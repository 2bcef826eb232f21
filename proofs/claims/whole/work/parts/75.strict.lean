/-! PURE 30: strict -/
/-- the sets that have a post, as bits -/
def sw (F : Nat → Nat) (K e : Nat) : Nat := bld (fun j => (F j).testBit e) K
theorem its_all {m : Nat} : ∀ {i : Nat}, i ≤ m → (its (2 ^ m - 1) i).1 = i ∧ ∀ c, c < i → (its (2 ^ m - 1) i).2 c = c
  | 0, _ => ⟨rfl, fun c hc => absurd hc (Nat.not_lt_zero c)⟩
  | i + 1, h => by
    obtain ⟨h1, h2⟩ := its_all (m := m) (i := i) (by omega)
    have q : (2 ^ m - 1).testBit i = true := by rw [tb_all]; exact decide_eq_true (by omega)
    rw [its_s, if_pos q]
    refine ⟨by show (its (2 ^ m - 1) i).1 + 1 = i + 1; rw [h1], fun c hc => ?_⟩
    show up1 (its (2 ^ m - 1) i).2 (its (2 ^ m - 1) i).1 i c = c
    rw [h1]
    unfold up1
    by_cases e : c = i
    · rw [if_pos e, e]
    · rw [if_neg e]; exact h2 c (by omega)
def tkA (t : TB) : Nat → Nat := pA (sw (tF t) (tK t)) (tN t) (its (2 ^ tK t - 1) (tK t)).2
def tkE (t : TB) : Nat → Bool := pE (sw (tF t) (tK t)) (tN t) (2 ^ tK t - 1) (its (2 ^ tK t - 1) (tK t)).2
theorem sw_tb {F : Nat → Nat} {K e c : Nat} : (sw F K e).testBit c = (decide (c < K) && (F c).testBit e) := by unfold sw; rw [bld_tb]
theorem tk_A {t : TB} {c : Nat} (hO : OKT t) (hc : c < tK t) : tkA t c = tF t c := by
  unfold tkA pA
  rw [(its_all (Nat.le_refl (tK t))).2 c hc]
  refine bld_eq (hO.2.2.2.2.2 c hc) fun i hi => ?_
  rw [sw_tb, decide_eq_true hc, Bool.true_and]
theorem tk_ends {t : TB} (hO : OKT t) : EndsOK (tkA t) (tkE t) (tK t) (tN t) := by
  have hp := Nat.two_pow_pos (tK t)
  have h := partners_ends (F := sw (tF t) (tK t)) (k := tN t) (x := 2 ^ tK t - 1) (n := tK t) hO.2.2.1 hO.1.2 (by omega)
  rw [(its_all (Nat.le_refl (tK t))).1] at h
  exact h
theorem tk_rm {t : TB} {c : Nat} (hc : c ≤ tK t) : rmi (2 ^ tK t - 1) (its (2 ^ tK t - 1) (tK t)).2 c = hib (2 ^ tK t - 1) c := by
  have h := rmi_at (2 ^ tK t - 1) (tK t) hc
  rw [(its_all hc).1] at h
  exact h
theorem tk_E0 (t : TB) : tkE t 0 = mt (mk (sw (tF t) (tK t)) 0) (tN t) (hib (2 ^ tK t - 1) 0) := by
  unfold tkE pE
  rw [pc_0, hib_0]
  rfl
theorem tk_okv {t : TB} {c u j : Nat} (hO : OKT t) (hc : c < tK t) (hj : j < tN t) (hu : pc u = c) : okv (tkA t) (tkE t) c u j = ((tF t c).testBit j && (!u.testBit j && mt (mk (sw (tF t) (tK t)) (u ||| 2 ^ j)) (tN t) (hib (2 ^ tK t - 1) (c + 1)))) := by
  have h8 := hO.1
  unfold tkA tkE
  rw [okv_p, (its_all (Nat.le_refl (tK t))).2 c hc, sw_tb, decide_eq_true hc, decide_eq_true hj, Bool.true_and, Bool.true_and]
  cases q : u.testBit j with
  | true => cases (tF t c).testBit j <;> rfl
  | false => rw [pc_add (by omega) q, hu, tk_rm (by omega)]
theorem cv_pc {A : Nat → Nat} {w : Nat} : ∀ {k : Nat}, k ≤ 8 → cv A k w = pc (bld (fun j => decide (A j &&& w ≠ 0)) k)
  | 0, _ => by rw [show bld (fun j => decide (A j &&& w ≠ 0)) 0 = 0 from rfl, pc_0]; rfl
  | k + 1, h => by
    rw [show cv A (k + 1) w = cv A k w + (if A k &&& w = 0 then 0 else 1) from rfl, cv_pc (k := k) (by omega), bld_s]
    by_cases q : A k &&& w = 0
    · rw [if_pos q, if_neg (by simp [q]), Nat.add_zero]
    · rw [if_neg q, if_pos (by simp [q]), pc_add (by omega) (by rw [bld_tb]; simp)]
/-- the posts of some sets of the family -/
def uni (F : Nat → Nat) (w : Nat) : Nat → Nat
  | 0 => 0
  | k + 1 => if w.testBit k = true then uni F w k ||| F k else uni F w k
theorem uni_s (F : Nat → Nat) (w k : Nat) : uni F w (k + 1) = if w.testBit k = true then uni F w k ||| F k else uni F w k := rfl
theorem uni_tb {F : Nat → Nat} {w i : Nat} : ∀ {k : Nat}, (uni F w k).testBit i = true ↔ ∃ j, j < k ∧ w.testBit j = true ∧ (F j).testBit i = true
  | 0 => ⟨fun h => (by rw [show uni F w 0 = 0 from rfl, Nat.zero_testBit] at h; cases h), fun ⟨j, h, _⟩ => absurd h (Nat.not_lt_zero j)⟩
  | k + 1 => by
    have ih := uni_tb (F := F) (w := w) (i := i) (k := k)
    rw [uni_s]
    by_cases q : w.testBit k = true
    · rw [if_pos q, Nat.testBit_or, Bool.or_eq_true, ih]
      constructor
      · rintro (⟨j, h1, h2⟩ | h)
        · exact ⟨j, by omega, h2⟩
        · exact ⟨k, by omega, q, h⟩
      · rintro ⟨j, h1, h2, h3⟩
        by_cases e : j = k
        · subst e; exact Or.inr h3
        · exact Or.inl ⟨j, by omega, h2, h3⟩
    · rw [if_neg q, ih]
      constructor
      · rintro ⟨j, h1, h2⟩
        exact ⟨j, by omega, h2⟩
      · rintro ⟨j, h1, h2, h3⟩
        by_cases e : j = k
        · subst e; exact absurd h2 q
        · exact ⟨j, by omega, h2, h3⟩
theorem uni_lt {F : Nat → Nat} {w n : Nat} : ∀ {k : Nat}, (∀ j, j < k → F j < 2 ^ n) → uni F w k < 2 ^ n
  | 0, _ => Nat.two_pow_pos n
  | k + 1, h => by
    have ih := uni_lt (w := w) (k := k) fun j hj => h j (by omega)
    rw [uni_s]
    split
    · exact Nat.or_lt_two_pow ih (h k (by omega))
    · exact ih
theorem uni_cv {F : Nat → Nat} {w u K n : Nat} (h8 : n ≤ 8) (hF : ∀ j, j < K → F j < 2 ^ n) : pc (dif (uni F w K) u) = cv (mk (sw F K) u) n w := by
  rw [cv_pc h8]
  congr 1
  refine (bld_eq (dif_lt (uni_lt hF)) fun i hi => ?_).symm
  show (dif (uni F w K) u).testBit i = decide (mk (sw F K) u i &&& w ≠ 0)
  rw [dif_tb]
  by_cases q : u.testBit i = true
  · have e : mk (sw F K) u i = 0 := if_pos q
    rw [e, q, Nat.zero_and]
    simp
  · have e : mk (sw F K) u i = sw F K i := if_neg q
    have q' : u.testBit i = false := by simpa using q
    rw [e, q', show (!false) = true from rfl, Bool.and_true, Bool.eq_iff_iff, decide_eq_true_iff, uni_tb, meet_iff]
    constructor
    · rintro ⟨j, h1, h2, h3⟩
      exact ⟨j, by rw [sw_tb, decide_eq_true h1, h3]; rfl, h2⟩
    · rintro ⟨j, h1, h2⟩
      rw [sw_tb, Bool.and_eq_true, decide_eq_true_iff] at h1
      exact ⟨j, h1.1, h2, h1.2⟩
theorem canTake_L2 {N w : Nat} {s : ST} {t : TB} (hN : 300 < N) (hO : OKT t) (hU : XT s 0 0 t) (hw : w < 256) : X7_canTake_L2 s (nI w) N (0 : Int32) (0 : Int32) = some (nI (uni (tF t) w (tK t))) := by
  have p8 := hO.p8
  have hK := hO.2.2.1
  have h := loop0 (F := fun k j v => X7_canTake_L2 s (nI w) k (nI j) v) (t := nI (uni (tF t) w (tK t))) (tK t) (fun j => nI (uni (tF t) w j)) (fun k j hj => by
    show X7_canTake_L2_b s (nI w) (X7_canTake_L2 s (nI w) k) (nI j) _ = _
    unfold X7_canTake_L2_b
    rw [hU.2.2.1, if_neg (by rw [nI_lep (by omega) (by omega)]; omega), X7_has_v (by omega) (by omega), bd_s, uni_s]
    by_cases q : w.testBit j = true
    · rw [ib_t q, if_pos q, inb_t (show j < 8 by omega) (by omega), gd_t, nI_clamp (by omega), hU.2.2.2.2.2 j hj, nx_or]
      simp only [nm_u, nI_1]
    · rw [ib_f (by simpa using q), if_neg q, l0, nx_or, Nat.or_zero]
      simp only [nm_u, nI_1]) (fun k => by
    show X7_canTake_L2_b s (nI w) (X7_canTake_L2 s (nI w) k) (nI (tK t)) _ = _
    unfold X7_canTake_L2_b
    rw [hU.2.2.1, if_pos (by rw [nI_lep (by omega) (by omega)]; exact Nat.le_refl _)]) (k := N) (by omega)
  exact h
theorem high_dec : ∀ a, a < 9 → ∀ w, w < 256 → (w / 2 ^ a * 2 ^ a = w ↔ ∀ i, i < a → w.testBit i = false) := by decide +kernel
theorem high_iff {w K a : Nat} (hK : K ≤ 8) (ha : a ≤ K) (hw : w < 2 ^ K) : w / 2 ^ a * 2 ^ a = w ↔ sub w (hib (2 ^ K - 1) a) := by
  have k8 := pow8 hK
  rw [high_dec a (by omega) w (by omega)]
  constructor
  · intro q i hi
    have g : ¬ i < a := fun g => by rw [q i g] at hi; cases hi
    rw [hib_tb, tb_all, decide_eq_true (tb_lt hw hi), decide_eq_false g]; rfl
  · intro q i hi
    cases g : w.testBit i with
    | false => rfl
    | true =>
      have := q i g
      rw [hib_tb, decide_eq_true hi] at this
      simp at this
theorem canTake_v {N a u : Nat} {s : ST} {t : TB} (hN : 300 < N) (hO : OKT t) (hU : XT s 0 0 t) (ha : a ≤ tK t) (hu : u < 256) : X7_canTake N s (nI a) (nI u) = some (bI (mt (mk (sw (tF t) (tK t)) u) (tN t) (hib (2 ^ tK t - 1) a))) := by
  have p8 := hO.p8
  have h8 := hO.1
  have hK := hO.2.2.1
  have k8 := pow8 hK
  have hp := Nat.two_pow_pos (tK t)
  have hl : hib (2 ^ tK t - 1) a < 2 ^ tK t := dif_lt (by omega)
  have h := loopSearch (F := fun k w => X7_canTake_L1 N s (nI a) (nI u) k (nI w)) (2 ^ tK t) (fun w => decide (w / 2 ^ a * 2 ^ a = w) && !decide (pc w ≤ cv (mk (sw (tF t) (tK t)) u) (tN t) w)) (fun _ => Sum.inl (0 : Int32)) (Sum.inr ()) (fun k w hw => by
    show X7_canTake_L1_b N s (nI a) (nI u) (X7_canTake_L1 N s (nI a) (nI u) k) (nI w) = _
    unfold X7_canTake_L1_b
    have hl := pc_le8 w
    have ul := uni_lt (w := w) hO.2.2.2.2.2
    have dl := dif_lt (b := u) ul
    have hc := cv_le (A := mk (sw (tF t) (tK t)) u) (k := tN t) (w := w)
    have dv := Nat.div_mul_le_self w (2 ^ a)
    rw [hU.2.2.1, nx_shl1 (by omega), if_neg (by rw [nI_lep (by omega) (by omega)]; omega), canTake_L2 hN hO hU (by omega), bd_s, nx_shr (by omega) (by omega), nx_shl (by omega) (by omega)]
    by_cases q : w / 2 ^ a * 2 ^ a = w
    · rw [if_pos (by rw [q]), nx_not, J6_bit_all _ (by omega), bd_s, J6_bit_all _ (by omega), bd_s, decide_eq_true q, uni_cv h8.2 hO.2.2.2.2.2]
      by_cases g : pc w ≤ cv (mk (sw (tF t) (tK t)) u) (tN t) w
      · rw [if_pos (by rw [nI_lep (by omega) (by omega)]; exact g), decide_eq_true g, nm_u, nI_1]; rfl
      · rw [if_neg (by rw [nI_lep (by omega) (by omega)]; exact g), decide_eq_false g]; rfl
    · rw [if_neg (by rw [nI_inj (by omega) (by omega)]; exact q), decide_eq_false q, nm_u, nI_1]; rfl) (fun k => by
    show X7_canTake_L1_b N s (nI a) (nI u) (X7_canTake_L1 N s (nI a) (nI u) k) (nI (2 ^ tK t)) = _
    unfold X7_canTake_L1_b
    rw [hU.2.2.1, nx_shl1 (by omega), if_pos (by rw [nI_lep (by omega) (by omega)]; exact Nat.le_refl _)]) (k := N) (by omega)
  have hi := mt_iff (A := mk (sw (tF t) (tK t)) u) (k := tN t) (x := hib (2 ^ tK t - 1) a) (by omega)
  unfold X7_canTake
  rw [l0]
  rcases h with ⟨w, w1, w2, -, e⟩ | ⟨w1, e⟩
  · rw [e, bd_s]
    rw [Bool.and_eq_true, decide_eq_true_iff, Bool.not_eq_true', decide_eq_false_iff_not] at w2
    have : mt (mk (sw (tF t) (tK t)) u) (tN t) (hib (2 ^ tK t - 1) a) = false := by
      cases q : mt (mk (sw (tF t) (tK t)) u) (tN t) (hib (2 ^ tK t - 1) a) with
      | false => rfl
      | true => exact absurd (hi.mp q w ((high_iff hK ha w1).mp w2.1)) w2.2
    rw [this]; rfl
  · rw [e, bd_s]
    have : mt (mk (sw (tF t) (tK t)) u) (tN t) (hib (2 ^ tK t - 1) a) = true := hi.mpr fun w hw => by
      have wl : w < 2 ^ tK t := sub_lt hw hl
      have := w1 w wl
      rw [decide_eq_true ((high_iff hK ha wl).mpr hw)] at this
      simpa using this
    rw [this]; rfl
/-- the roads that come of it -/
def rst (F g : Nat → Nat) : Nat → Nat → Nat
  | 0 => fun _ => 0
  | k + 1 => up1 (rst F g k) (g k) (dif (F k) (2 ^ g k))
theorem rst_s (F g : Nat → Nat) (k : Nat) : rst F g (k + 1) = up1 (rst F g k) (g k) (dif (F k) (2 ^ g k)) := rfl
theorem us_tb {g : Nat → Nat} {i : Nat} : ∀ {k : Nat}, (us g k).testBit i = true ↔ ∃ j, j < k ∧ g j = i
  | 0 => ⟨fun h => (by rw [show us g 0 = 0 from rfl, Nat.zero_testBit] at h; cases h), fun ⟨j, h, _⟩ => absurd h (Nat.not_lt_zero j)⟩
  | k + 1 => by
    have ih := us_tb (g := g) (i := i) (k := k)
    rw [us_s, Nat.testBit_or, Bool.or_eq_true, ih, tb_two, decide_eq_true_iff]
    constructor
    · rintro (⟨j, h1, h2⟩ | h)
      · exact ⟨j, by omega, h2⟩
      · exact ⟨k, by omega, h⟩
    · rintro ⟨j, h1, h2⟩
      by_cases e : j = k
      · subst e; exact Or.inr h2
      · exact Or.inl ⟨j, by omega, h2⟩
theorem rst_out {F g : Nat → Nat} {i : Nat} : ∀ {k : Nat}, (us g k).testBit i = false → rst F g k i = 0
  | 0, _ => rfl
  | k + 1, h => by
    rw [us_s, Nat.testBit_or, Bool.or_eq_false_iff, tb_two, decide_eq_false_iff_not] at h
    rw [rst_s]
    unfold up1
    rw [if_neg (fun q => h.2 q.symm)]
    exact rst_out h.1
theorem ctr_up1 {f : Nat → Nat} {a x : Nat} (h0 : f a = 0) : ∀ {n : Nat}, a < n → ctr (fun i => pc (up1 f a x i)) n = ctr (fun i => pc (f i)) n + pc x
  | 0, h => absurd h (Nat.not_lt_zero a)
  | n + 1, h => by
    rw [ctr_s, ctr_s]
    by_cases e : a = n
    · subst e
      rw [ctr_congr (f := fun i => pc (up1 f a x i)) (g := fun i => pc (f i)) (fun i hi => by
        show pc (up1 f a x i) = pc (f i)
        rw [show up1 f a x i = f i from if_neg (by omega)])]
      show _ + pc (up1 f a x a) = _ + pc (f a) + _
      rw [show up1 f a x a = x from if_pos rfl, h0, pc_0]; omega
    · have ih := ctr_up1 (x := x) h0 (n := n) (by omega)
      show _ + pc (up1 f a x n) = _ + pc (f n) + _
      rw [ih, show up1 f a x n = f n from if_neg (by omega)]; omega
theorem rst_sum {F g : Nat → Nat} {n : Nat} : ∀ {k : Nat}, (∀ j, j < k → g j < n ∧ (us g j).testBit (g j) = false) → ctr (fun i => pc (rst F g k i)) n = ctr (fun j => pc (dif (F j) (2 ^ g j))) k
  | 0, _ => by
    rw [show (fun i => pc (rst F g 0 i)) = fun _ => 0 from funext fun i => pc_0, ctr_0]
    rfl
  | k + 1, h => by
    have ih := rst_sum (F := F) (g := g) (n := n) (k := k) fun j hj => h j (by omega)
    obtain ⟨h1, h2⟩ := h k (by omega)
    rw [rst_s, ctr_up1 (rst_out h2) h1, ih, ctr_s]
theorem rst_lt {F g : Nat → Nat} {n : Nat} : ∀ {k : Nat}, (∀ j, j < k → F j < 2 ^ n) → ∀ i, rst F g k i < 2 ^ n ∧ (rst F g k i).testBit i = false
  | 0, _ => fun i => ⟨Nat.two_pow_pos n, Nat.zero_testBit i⟩
  | k + 1, h => fun i => by
    have ih := rst_lt (g := g) (k := k) (fun j hj => h j (by omega)) i
    rw [rst_s]
    unfold up1
    by_cases e : i = g k
    · rw [if_pos e]
      refine ⟨dif_lt (h k (by omega)), ?_⟩
      rw [dif_tb, tb_two, e]
      simp
    · rw [if_neg e]; exact ih
theorem sA_ne {s : ST} {k j : Nat} {f : Nat → Int32} (h : j ≠ k) : (sA s k f).2.1 j = s.2.1 j := if_neg h
theorem sA_at {s : ST} {k : Nat} {f : Nat → Int32} : (sA s k f).2.1 k = f := if_pos rfl
theorem sI_ne {s : ST} {k j : Nat} {v : Int32} (h : j ≠ k) : (sI s k v).1 j = s.1 j := if_neg h
theorem sI_at {s : ST} {k : Nat} {v : Int32} : (sI s k v).1 k = v := if_pos rfl
theorem sIA_sIA (s : ST) (k j : Nat) (f f' : Nat → Int32) (v v' : Int32) : sI (sA (sI (sA s k f) j v) k f') j v' = sI (sA s k f') j v' := st_eq (fun c => by
  simp only [st_II, st_AI]
  by_cases e : c = j <;> simp [e]) (fun c => by
  simp only [st_IA, st_AA]
  by_cases e : c = k <;> simp [e]) (fun _ => rfl)
