/-! PURE 12: bases, circuits, flats one by one; shut sets; loops -/
/-- the posts below n that p holds of -/
def bld (p : Nat → Bool) : Nat → Nat
  | 0 => 0
  | i + 1 => if p i = true then bld p i ||| 2 ^ i else bld p i
theorem bld_tb {p : Nat → Bool} {i : Nat} : ∀ {n : Nat}, (bld p n).testBit i = (decide (i < n) && p i)
  | 0 => by simp [bld]
  | n + 1 => by
    unfold bld
    have ih := bld_tb (p := p) (i := i) (n := n)
    by_cases q : p n = true
    · rw [if_pos q, Nat.testBit_or, ih, tb_two]
      by_cases e : n = i
      · subst e; simp [q]
      · by_cases g : i < n
        · simp [e, g, Nat.lt_succ_of_lt g]
        · simp [e, g, show ¬ i < n + 1 by omega]
    · rw [if_neg q, ih]
      by_cases e : n = i
      · subst e; simp [q]
      · by_cases g : i < n
        · simp [g, Nat.lt_succ_of_lt g]
        · simp [g, show ¬ i < n + 1 by omega]
theorem bld_lt {p : Nat → Bool} {n : Nat} : bld p n < 2 ^ n := lt_of_tb fun i hi => by rw [bld_tb]; simp [show ¬ i < n by omega]
theorem bld_s {p : Nat → Bool} {n : Nat} : bld p (n + 1) = if p n = true then bld p n ||| 2 ^ n else bld p n := rfl
theorem bld_eq {p : Nat → Bool} {n y : Nat} (hy : y < 2 ^ n) (h : ∀ i, i < n → y.testBit i = p i) : bld p n = y := tb_ext fun i => by
  rw [bld_tb]
  by_cases q : i < n
  · simp [q, h i q]
  · rw [tb_big hy (by omega)]; simp [q]
def isCr (n : Nat) (r : Nat → Nat) (x : Nat) : Bool := !isFr r x && (List.range n).all fun i => !x.testBit i || isFr r (dif x (2 ^ i))
def cl (n : Nat) (r : Nat → Nat) (x : Nat) : Nat := bld (fun i => decide (r (x ||| 2 ^ i) = r x)) n
theorem cl_sub {n x : Nat} {r : Nat → Nat} (hx : x < 2 ^ n) : sub x (cl n r x) := fun i hi => by
  unfold cl
  rw [bld_tb, or_in hi]
  simp [tb_lt hx hi]
theorem isCr_iff {n x : Nat} {r : Nat → Nat} : isCr n r x = true ↔ isFr r x = false ∧ ∀ i, i < n → x.testBit i = true → isFr r (dif x (2 ^ i)) = true := by
  unfold isCr
  rw [Bool.and_eq_true, List.all_eq_true, Bool.not_eq_true']
  constructor
  · rintro ⟨h1, h2⟩
    refine ⟨h1, fun i hi hx => ?_⟩
    have := h2 i (List.mem_range.mpr hi)
    rw [hx] at this
    simpa using this
  · rintro ⟨h1, h2⟩
    refine ⟨h1, fun i hi => ?_⟩
    cases q : x.testBit i with
    | false => rfl
    | true => simpa using h2 i (List.mem_range.mp hi) q
theorem X2_isCircuit_v {N w x : Nat} {s : ST} {t : TB} (hN : 300 < N) (hR : RanksOK s t) (hn : s.1 1 = nI (tN t)) (hO : OKT t) (hw : w < 4) (hx : x < 2 ^ tN t) : X2_isCircuit N s (nI w) (nI x) = some (bI (isCr (tN t) (rw4 t w) x)) := by
  have p8 := hO.p8
  have h8 := hO.1.2
  unfold X2_isCircuit
  rw [X2_isFree_v hR hn hO hw hx, bd_s]
  cases q : isFr (rw4 t w) x with
  | true =>
    rw [ib_t rfl]
    unfold isCr
    rw [q]; rfl
  | false =>
    rw [ib_f rfl]
    have h := loopSearch (F := fun j i => X2_isCircuit_L1 s (nI w) (nI x) j (nI i)) (tN t) (fun i => x.testBit i && !isFr (rw4 t w) (dif x (2 ^ i))) (fun _ => Sum.inl (0 : Int32)) (Sum.inr ()) (fun j i hi => by
        show X2_isCircuit_L1_b s (nI w) (nI x) (X2_isCircuit_L1 s (nI w) (nI x) j) (nI i) = _
        unfold X2_isCircuit_L1_b
        rw [hR.2.2.2.1, if_neg (by rw [nI_lep (by omega) (by omega)]; omega), X6_has_v (by omega) (by omega), bd_s]
        cases g : x.testBit i with
        | false => rw [ib_f rfl, nm_u, nI_1]; rfl
        | true =>
          rw [ib_t rfl, no_val (by omega), X2_isFree_v hR hn hO hw (dif_lt hx), bd_s]
          cases g2 : isFr (rw4 t w) (dif x (2 ^ i)) with
          | false => rw [ib_f rfl]; rfl
          | true => rw [ib_t rfl, nm_u, nI_1]; rfl) (fun j => by
        show X2_isCircuit_L1_b s (nI w) (nI x) (X2_isCircuit_L1 s (nI w) (nI x) j) (nI (tN t)) = _
        unfold X2_isCircuit_L1_b
        rw [hR.2.2.2.1, if_pos (by rw [nI_lep (by omega) (by omega)]; exact Nat.le_refl _)]) (k := N) (by omega)
    rw [l0]
    rcases h with ⟨i, hi, g, -, e⟩ | ⟨g, e⟩
    · rw [e, bd_s]
      have : isCr (tN t) (rw4 t w) x = false := by
        cases z : isCr (tN t) (rw4 t w) x with
        | false => rfl
        | true =>
          rw [Bool.and_eq_true] at g
          rw [(isCr_iff.mp z).2 i hi g.1] at g
          cases g.2
      rw [this]; rfl
    · rw [e, bd_s]
      have : isCr (tN t) (rw4 t w) x = true := isCr_iff.mpr ⟨q, fun i hi hxi => by
        have := g i hi
        rw [hxi] at this
        simpa using this⟩
      rw [this]; rfl
theorem X7_isCircuit_v {N n x : Nat} {s : ST} {r : Nat → Nat} (hN : 300 < N) (hn : s.1 0 = nI n) (h8 : n ≤ 8) (hL : LayOK s n r) (hx : x < 2 ^ n) : X7_isCircuit N s (nI x) = some (bI (isCr n r x)) := by
  have p8 := pow8 h8
  have key : ∀ b, ∃ c, X7_isCircuit_L1 s (nI x) N (nI 0) (bI b) = some (bI c) ∧ (c = true ↔ b = true ∧ ∀ i, i < n → x.testBit i = true → isFr r (dif x (2 ^ i)) = true) := by
    intro b
    obtain ⟨z, e, c, hz, h⟩ := loopInv0 (F := fun j i (z : Int32) => X7_isCircuit_L1 s (nI x) j (nI i) z) (Q := fun z => ∃ c, z = bI c ∧ (c = true ↔ b = true ∧ ∀ i, i < n → x.testBit i = true → isFr r (dif x (2 ^ i)) = true)) (fun i z => ∃ c, z = bI c ∧ (c = true ↔ b = true ∧ ∀ j, j < i → x.testBit j = true → isFr r (dif x (2 ^ j)) = true)) n (fun j i z hi ⟨c, hz, hc⟩ => by
        subst hz
        show ∃ z', _ ∧ X7_isCircuit_L1_b s (nI x) (X7_isCircuit_L1 s (nI x) j) (nI i) (bI c) = _
        unfold X7_isCircuit_L1_b
        rw [hn, if_neg (by rw [nI_lep (by omega) (by omega)]; omega)]
        cases c with
        | false =>
          refine ⟨bI false, ⟨false, rfl, ⟨fun h => (by cases h), fun h => hc.mpr ⟨h.1, fun j hj => h.2 j (by omega)⟩⟩⟩, ?_⟩
          rw [ib_f rfl]
          simp only [nm_u, nI_1]
          rfl
        | true =>
          rw [ib_t rfl, X7_has_v (by omega) (by omega), bd_s]
          by_cases q : x.testBit i = true
          · have hd := dif_two_lt q
            rw [ib_t q, no_val (by omega), inb_t (show dif x (2 ^ i) < 256 by omega) (by omega), gd_t, nI_clamp (by omega), (hL _ (by omega)).2.1]
            refine ⟨bI (isFr r (dif x (2 ^ i))), ⟨isFr r (dif x (2 ^ i)), rfl, fun h => ⟨(hc.mp rfl).1, fun j hj hxj => ?_⟩, fun h => h.2 i (by omega) q⟩, ?_⟩
            · by_cases e : j = i
              · subst e; exact h
              · exact (hc.mp rfl).2 j (by omega) hxj
            · cases isFr r (dif x (2 ^ i)) with
              | false => rw [ib_f rfl]; simp only [nm_u, nI_1]; rfl
              | true => rw [ib_t rfl]; simp only [nm_u, nI_1]; rfl
          · rw [ib_f (by simpa using q)]
            refine ⟨bI true, ⟨true, rfl, fun _ => ⟨(hc.mp rfl).1, fun j hj hxj => ?_⟩, fun _ => rfl⟩, by simp only [nm_u, nI_1]; rfl⟩
            by_cases e : j = i
            · subst e; exact absurd hxj q
            · exact (hc.mp rfl).2 j (by omega) hxj) (fun j z ⟨c, hz, hc⟩ => by
        subst hz
        refine ⟨_, ?_, c, rfl, hc⟩
        show X7_isCircuit_L1_b s (nI x) (X7_isCircuit_L1 s (nI x) j) (nI n) (bI c) = _
        unfold X7_isCircuit_L1_b
        rw [hn, if_pos (by rw [nI_lep (by omega) (by omega)]; exact Nat.le_refl _)]) (k := N) (by omega) (a := bI b) ⟨b, rfl, fun h => ⟨h, fun j hj => by omega⟩, fun h => h.1⟩
    subst hz
    exact ⟨c, e, h⟩
  unfold X7_isCircuit
  rw [inb_t (show x < 256 by omega) (by omega), gd_t, nI_clamp (by omega), (hL x hx).2.1]
  cases q : isFr r x with
  | false =>
    obtain ⟨c, e, hc⟩ := key true
    rw [ib_f rfl, l0, show X7_isCircuit_L1 s (nI x) N (nI 0) (1 : Int32) = some (bI c) from e, bd_s, gd_bz]
    have : c = isCr n r x := Bool.eq_iff_iff.mpr (by rw [hc, isCr_iff]; exact ⟨fun h => ⟨q, h.2⟩, fun h => ⟨rfl, h.2⟩⟩)
    rw [this]
  | true =>
    obtain ⟨c, e, hc⟩ := key false
    rw [ib_t rfl, l0, show X7_isCircuit_L1 s (nI x) N (nI 0) (nI 0) = some (bI c) from e, bd_s, gd_bz]
    have : c = isCr n r x := Bool.eq_iff_iff.mpr (by rw [hc, isCr_iff]; exact ⟨fun h => (by cases h.1), fun h => (by rw [q] at h; cases h.1)⟩)
    rw [this]
theorem X2_shutOf_v {N w x : Nat} {s : ST} {t : TB} (hN : 300 < N) (hR : RanksOK s t) (hn : s.1 1 = nI (tN t)) (hO : OKT t) (hw : w < 4) (hx : x < 2 ^ tN t) : X2_shutOf N s (nI w) (nI x) = some (nI (cl (tN t) (rw4 t w) x)) := by
  have p8 := hO.p8
  have h8 := hO.1.2
  have h := loop0 (F := fun j i v => X2_shutOf_L1 s (nI w) (nI x) j (nI i) v) (t := nI (x ||| cl (tN t) (rw4 t w) x)) (tN t) (fun i => nI (x ||| bld (fun i => decide (rw4 t w (x ||| 2 ^ i) = rw4 t w x)) i)) (fun j i hi => by
      show X2_shutOf_L1_b s (nI w) (nI x) (X2_shutOf_L1 s (nI w) (nI x) j) (nI i) _ = _
      unfold X2_shutOf_L1_b
      have hxi := or_two_lt hx hi
      have a := rw4_le hO w hx
      have b := rw4_le hO w hxi
      rw [hR.2.2.2.1, if_neg (by rw [nI_lep (by omega) (by omega)]; omega), in_val (by omega), X2_of_v hR hn hO hw hxi, bd_s, X2_of_v hR hn hO hw hx, bd_s, bld_s]
      by_cases q : rw4 t w (x ||| 2 ^ i) = rw4 t w x
      · rw [if_pos (by rw [q]), if_pos (decide_eq_true q), ← Nat.or_assoc, in_val (by omega)]
        simp only [nm_u, nI_1]
      · rw [if_neg (by rw [nI_inj (by omega) (by omega)]; exact q), if_neg (by rw [decide_eq_true_iff]; exact q)]
        simp only [nm_u, nI_1]) (fun j => by
      show X2_shutOf_L1_b s (nI w) (nI x) (X2_shutOf_L1 s (nI w) (nI x) j) (nI (tN t)) _ = _
      unfold X2_shutOf_L1_b
      rw [hR.2.2.2.1, if_pos (by rw [nI_lep (by omega) (by omega)]; exact Nat.le_refl _)]
      rfl) (k := N) (by omega)
  unfold X2_shutOf
  rw [show x ||| bld (fun i => decide (rw4 t w (x ||| 2 ^ i) = rw4 t w x)) 0 = x from Nat.or_zero x] at h
  rw [l0, h, bd_s]
  rw [show x ||| cl (tN t) (rw4 t w) x = cl (tN t) (rw4 t w) x from tb_ext fun i => by
    rw [Nat.testBit_or]
    cases q : x.testBit i with
    | true => rw [cl_sub hx i q]; rfl
    | false => rfl]
theorem X7_shutOf_v {N n x : Nat} {s : ST} {r : Nat → Nat} (hN : 300 < N) (hn : s.1 0 = nI n) (hr : RK n r) (hL : LayOK s n r) (hx : x < 2 ^ n) : X7_shutOf N s (nI x) = some (nI (cl n r x)) := by
  have h8 := hr.1
  have p8 := pow8 h8
  have hle : ∀ y, y < 2 ^ n → r y ≤ 8 := fun y hy => Nat.le_trans (hr.le_pc hy) (pc_le8 y)
  have h := loop0 (F := fun j i v => X7_shutOf_L1 s (nI x) j (nI i) v) (t := nI (cl n r x)) n (fun i => nI (bld (fun i => decide (r (x ||| 2 ^ i) = r x)) i)) (fun j i hi => by
      show X7_shutOf_L1_b s (nI x) (X7_shutOf_L1 s (nI x) j) (nI i) _ = _
      unfold X7_shutOf_L1_b
      have hxi := or_two_lt hx hi
      have a := hle x hx
      have b := hle _ hxi
      rw [hn, if_neg (by rw [nI_lep (by omega) (by omega)]; omega), in_val (by omega), inb_t (show x ||| 2 ^ i < 256 by omega) (by omega), gd_t, inb_t (show x < 256 by omega) (by omega), gd_t, nI_clamp (by omega), nI_clamp (by omega), (hL _ hxi).1, (hL _ hx).1, bld_s]
      by_cases q : r (x ||| 2 ^ i) = r x
      · rw [if_pos (by rw [q]), if_pos (decide_eq_true q), in_val (by omega)]
        simp only [nm_u, nI_1]
      · rw [if_neg (by rw [nI_inj (by omega) (by omega)]; exact q), if_neg (by rw [decide_eq_true_iff]; exact q), l0, nx_or, Nat.or_zero]
        simp only [nm_u, nI_1]) (fun j => by
      show X7_shutOf_L1_b s (nI x) (X7_shutOf_L1 s (nI x) j) (nI n) _ = _
      unfold X7_shutOf_L1_b
      rw [hn, if_pos (by rw [nI_lep (by omega) (by omega)]; exact Nat.le_refl _)]
      rfl) (k := N) (by omega)
  unfold X7_shutOf
  rw [show bld (fun i => decide (r (x ||| 2 ^ i) = r x)) 0 = 0 from rfl] at h
  rw [l0, h, bd_s]
/-- the v-th of those that P holds of, or how many there are -/
def lst (P : Nat → Bool) (v : Int32) (N : Nat) : Nat → Nat → Nat ⊕ Nat
  | 0, c => .inr c
  | d + 1, c => if P (N - (d + 1)) = true then (if nI c = v then .inl (N - (d + 1)) else lst P v N d (c + 1)) else lst P v N d c
def isO (n : Nat) (r : Nat → Nat) (j x : Nat) : Bool := if j = 0 then isBs n r x else if j = 1 then isCr n r x else decide (cl n r x = x)
theorem X2_isOf_v {N j w x : Nat} {s : ST} {t : TB} (hN : 300 < N) (hR : RanksOK s t) (hn : s.1 1 = nI (tN t)) (hO : OKT t) (hw : w < 4) (hx : x < 2 ^ tN t) (hj : j < 3) : X2_isOf N s (nI j) (nI w) (nI x) = some (bI (isO (tN t) (rw4 t w) j x)) := by
  have p8 := hO.p8
  have hc : cl (tN t) (rw4 t w) x < 2 ^ tN t := bld_lt
  have : j = 0 ∨ j = 1 ∨ j = 2 := by omega
  unfold X2_isOf
  rcases this with rfl | rfl | rfl
  · rw [if_pos (show nI 0 = (0 : Int32) from rfl), X2_isBase_v hR hn hO hw hx, bd_s, gd_bz]; rfl
  · rw [if_neg (by decide), if_pos (show nI 1 = (1 : Int32) from rfl), X2_isCircuit_v hN hR hn hO hw hx, bd_s, gd_bz]; rfl
  · rw [if_neg (by decide), if_neg (by decide), if_pos (show nI 2 = (2 : Int32) from rfl), X2_shutOf_v hN hR hn hO hw hx, bd_s]
    show _ = some (bI (decide (cl (tN t) (rw4 t w) x = x)))
    by_cases q : cl (tN t) (rw4 t w) x = x
    · rw [if_pos (by rw [q]), decide_eq_true q]; rfl
    · rw [if_neg (by rw [nI_inj (by omega) (by omega)]; exact q), decide_eq_false q]; rfl
theorem listed_X {N j w : Nat} {s : ST} {t : TB} {v : Int32} (hN : 300 < N) (hR : RanksOK s t) (hn : s.1 1 = nI (tN t)) (hO : OKT t) (hw : w < 4) (hj : j < 3) : ∀ d i c k, i + d = 2 ^ tN t → d < k → X6_listed_L1 N s (nI (2 ^ tN t - 1)) (nI j) (nI w) v k (nI i) (nI c) = some (match lst (isO (tN t) (rw4 t w) j) v (2 ^ tN t) d c with | .inl x => Sum.inl (nI x, s) | .inr c => Sum.inr (nI c)) := by
  have p8 := hO.p8
  have hp := Nat.two_pow_pos (tN t)
  intro d
  induction d with
  | zero =>
    intro i c k h1 h2
    obtain ⟨k, rfl⟩ : ∃ j, k = j + 1 := ⟨k - 1, by omega⟩
    show X6_listed_L1_b N s _ _ _ v (X6_listed_L1 N s _ _ _ v k) (nI i) (nI c) = _
    unfold X6_listed_L1_b
    rw [if_pos (by rw [nI_ltp (by omega) (by omega)]; omega)]
    rfl
  | succ d ih =>
    intro i c k h1 h2
    obtain ⟨k, rfl⟩ : ∃ j, k = j + 1 := ⟨k - 1, by omega⟩
    have ei : 2 ^ tN t - (d + 1) = i := by omega
    show X6_listed_L1_b N s _ _ _ v (X6_listed_L1 N s _ _ _ v k) (nI i) (nI c) = _
    unfold X6_listed_L1_b lst
    rw [ei, if_neg (by rw [nI_ltp (by omega) (by omega)]; omega), X2_isOf_v hN hR hn hO hw (by omega) hj, bd_s]
    cases q : isO (tN t) (rw4 t w) j i with
    | false =>
      rw [ib_f rfl, if_neg (by decide)]
      simp only [nm_u, nI_1]
      exact ih (i + 1) c k (by omega) (by omega)
    | true =>
      rw [ib_t rfl, if_pos rfl]
      by_cases g : nI c = v
      · rw [if_pos g, if_pos g]
      · rw [if_neg g, if_neg g]
        simp only [nm_u, nI_1]
        exact ih (i + 1) (c + 1) k (by omega) (by omega)
theorem listed_M {N n j : Nat} {s : ST} {r : Nat → Nat} {v : Int32} (hN : 300 < N) (hn : s.1 0 = nI n) (hr : RK n r) (hL : LayOK s n r) (hj : j < 3) : ∀ d i c k, i + d = 2 ^ n → d < k → X7_listed_L1 N s (nI j) v k (nI i) (nI c) = some (match lst (isO n r j) v (2 ^ n) d c with | .inl x => Sum.inl (nI x, s) | .inr c => Sum.inr (nI c)) := by
  have h8 := hr.1
  have p8 := pow8 h8
  have hp := Nat.two_pow_pos n
  intro d
  induction d with
  | zero =>
    intro i c k h1 h2
    obtain ⟨k, rfl⟩ : ∃ j, k = j + 1 := ⟨k - 1, by omega⟩
    show X7_listed_L1_b N s _ v (X7_listed_L1 N s _ v k) (nI i) (nI c) = _
    unfold X7_listed_L1_b
    rw [X7_all_v hn h8, bd_s, if_pos (by rw [nI_ltp (by omega) (by omega)]; omega)]
    rfl
  | succ d ih =>
    intro i c k h1 h2
    obtain ⟨k, rfl⟩ : ∃ j, k = j + 1 := ⟨k - 1, by omega⟩
    have ei : 2 ^ n - (d + 1) = i := by omega
    have z0 : nI c + (0 : Int32) = nI c := by rw [l0, nI_add, Nat.add_zero]
    have i1 := ih (i + 1) c k (by omega) (by omega)
    have i2 := ih (i + 1) (c + 1) k (by omega) (by omega)
    show X7_listed_L1_b N s _ v (X7_listed_L1 N s _ v k) (nI i) (nI c) = _
    unfold X7_listed_L1_b lst
    rw [ei, X7_all_v hn h8, bd_s, if_neg (by rw [nI_ltp (by omega) (by omega)]; omega)]
    have : j = 0 ∨ j = 1 ∨ j = 2 := by omega
    rcases this with rfl | rfl | rfl
    · rw [if_pos (show nI 0 = 0 from rfl), inb_t (show i < 256 by omega) (by omega), gd_t, nI_clamp (by omega), (hL i (by omega)).2.2, nm_u]
      rw [show isO n r 0 i = isBs n r i from rfl]
      cases q : isBs n r i with
      | false =>
        rw [ib_f rfl, ib_f rfl, if_neg (by decide)]
        simp only [nm_u, nI_1, z0]
        exact i1
      | true =>
        rw [ib_t rfl, if_pos rfl]
        by_cases g : nI c = v
        · rw [if_pos g, if_pos g]
        · rw [if_neg g, if_neg g, ib_t rfl]
          simp only [nm_u, nI_1]
          exact i2
    · rw [if_neg (by decide), if_pos (show nI 1 = (1 : Int32) from rfl), X7_isCircuit_v hN hn h8 hL (by omega), bd_s]
      rw [show isO n r 1 i = isCr n r i from rfl]
      cases q : isCr n r i with
      | false =>
        rw [ib_f rfl, ib_f rfl, if_neg (by decide)]
        simp only [nm_u, nI_1, z0]
        exact i1
      | true =>
        rw [ib_t rfl, if_pos rfl]
        by_cases g : nI c = v
        · rw [if_pos g, if_pos g]
        · rw [if_neg g, if_neg g, ib_t rfl]
          simp only [nm_u, nI_1]
          exact i2
    · have hc : cl n r i < 2 ^ n := bld_lt
      rw [if_neg (by decide), if_neg (by decide), X7_shutOf_v hN hn hr hL (by omega), bd_s]
      rw [show isO n r 2 i = decide (cl n r i = i) from rfl]
      by_cases q : cl n r i = i
      · rw [if_pos (by rw [q]), decide_eq_true q, if_neg (by decide), if_pos rfl]
        by_cases g : nI c = v
        · rw [if_pos g, if_pos g]
        · rw [if_neg g, if_neg g, if_neg (by decide)]
          simp only [nm_u, nI_1]
          exact i2
      · rw [if_neg (by rw [nI_inj (by omega) (by omega)]; exact q), decide_eq_false q, if_pos (show (0 : Int32) = 0 from rfl), if_pos (show (0 : Int32) = 0 from rfl), if_neg (by decide)]
        simp only [nm_u, nI_1, z0]
        exact i1
theorem m1_not {v : Int32} (h : (-1 : Int32) ≤ v) : (v = -1) = ¬ 0 ≤ v := propext (by
  rw [Int32.le_iff_toInt_le] at h ⊢
  rw [← Int32.toInt_inj]
  have a : (-1 : Int32).toInt = -1 := by decide
  have b : (0 : Int32).toInt = 0 := by decide
  omega)
theorem case_listed {k N j : Nat} {s u : ST} (h : Inv k s u) (hk : k < 512) (hN : 300 < N) (hj : j < 3) (v1 v2 : Int32) : ∃ r s' u', X6_listed N s (nI j) v1 v2 = some (r, s') ∧ X7_listed N u v1 (nI j) v2 = some (r, u') ∧ Inv (k + 1) s' u' := by
  obtain ⟨t, s', hO, hX, hU, e, hR, hX', hSc, hI⟩ := h.sides hk hN
  have p8 := hO.p8
  unfold X6_listed X7_listed
  rw [X6_isSide_v, X7_isSide_v, bd_s, bd_s]
  refine bc (b := inR v1 4) (fun q => ⟨_, _, _, by rw [ib_f q], by rw [ib_f q], h.mono⟩) fun q => ?_
  rw [ib_t q, ib_t q]
  by_cases g : (-1 : Int32) ≤ v2
  · rw [if_pos g, if_pos g]
    obtain ⟨w, hw, rfl⟩ := inR_t q (by omega)
    obtain ⟨u', eu, su, lu⟩ := X7_lay_v hN hU hO hw
    have a := listed_X (v := v2) hN hR hX'.1 hO hw hj (2 ^ tN t) 0 0 N (by omega) (by omega)
    have b := listed_M (v := v2) hN (hU.scM su (by omega)).1 (rw4_rk hO w) lu hj (2 ^ tN t) 0 0 N (by omega) (by omega)
    rw [e, bd_s, X4_all_v hX'.1 hO.1.2, bd_s, l0, a, bd_s, eu, bd_s, b, bd_s]
    cases lst (isO (tN t) (rw4 t w) j) v2 (2 ^ tN t) (2 ^ tN t) 0 with
    | inl x => exact ⟨_, _, _, rfl, rfl, hI u' su⟩
    | inr c =>
      simp only [sm]
      by_cases z : v2 = -1
      · refine ⟨_, _, _, by rw [if_pos z], ?_, hI u' su⟩
        rw [if_neg (by rw [m1_not g] at z; exact z)]
      · refine ⟨_, _, _, by rw [if_neg z], ?_, hI u' su⟩
        rw [if_pos (by rw [m1_not g] at z; exact Classical.not_not.mp z)]
  · exact ⟨_, _, _, by rw [if_neg g], by rw [if_neg g], h.mono⟩
theorem case_base {k N : Nat} {s u : ST} (h : Inv k s u) (hk : k < 512) (hN : 300 < N) (v1 v2 : Int32) : ∃ r s' u', X6_base N s v1 v2 = some (r, s') ∧ X7_base N u v1 v2 = some (r, u') ∧ Inv (k + 1) s' u' := by
  obtain ⟨r, s', u', e1, e2, h'⟩ := case_listed (j := 0) h hk hN (by omega) v1 v2
  unfold X6_base X7_base
  rw [l0, e1, e2]
  exact ⟨r, s', u', rfl, rfl, h'⟩
theorem case_circuit {k N : Nat} {s u : ST} (h : Inv k s u) (hk : k < 512) (hN : 300 < N) (v1 v2 : Int32) : ∃ r s' u', X6_circuit N s v1 v2 = some (r, s') ∧ X7_circuit N u v1 v2 = some (r, u') ∧ Inv (k + 1) s' u' := by
  obtain ⟨r, s', u', e1, e2, h'⟩ := case_listed (j := 1) h hk hN (by omega) v1 v2
  unfold X6_circuit X7_circuit
  rw [l1, e1, e2]
  exact ⟨r, s', u', rfl, rfl, h'⟩
theorem case_flat {k N : Nat} {s u : ST} (h : Inv k s u) (hk : k < 512) (hN : 300 < N) (v1 v2 : Int32) : ∃ r s' u', X6_flat N s v1 v2 = some (r, s') ∧ X7_flat N u v1 v2 = some (r, u') ∧ Inv (k + 1) s' u' := by
  obtain ⟨r, s', u', e1, e2, h'⟩ := case_listed (j := 2) h hk hN (by omega) v1 v2
  unfold X6_flat X7_flat
  rw [l2, e1, e2]
  exact ⟨r, s', u', rfl, rfl, h'⟩
theorem case_shut {k N : Nat} {s u : ST} (h : Inv k s u) (hk : k < 512) (hN : 300 < N) (v1 v2 : Int32) : ∃ r s' u', X6_shut N s v1 v2 = some (r, s') ∧ X7_shut N u v1 v2 = some (r, u') ∧ Inv (k + 1) s' u' := by
  obtain ⟨t, s', hO, hX, hU, e, hR, hX', hSc, hI⟩ := h.sides hk hN
  have p8 := hO.p8
  unfold X6_shut X7_shut
  rw [X6_isSide_v, X7_isSide_v, bd_s, bd_s]
  refine bc (b := inR v1 4) (fun q => ⟨_, _, _, by rw [ib_f q], by rw [ib_f q], h.mono⟩) fun q => ?_
  rw [ib_t q, ib_t q, (isSet_2 hO hX hU v2).1, (isSet_2 hO hX hU v2).2, bd_s, bd_s]
  refine bc (b := inR v2 (2 ^ tN t)) (fun q => ⟨_, _, _, by rw [ib_f q], by rw [ib_f q], h.mono⟩) fun q2 => ?_
  obtain ⟨w, hw, rfl⟩ := inR_t q (by omega)
  obtain ⟨x, hx, rfl⟩ := inR_t q2 (by omega)
  obtain ⟨u', eu, su, lu⟩ := X7_lay_v hN hU hO hw
  rw [ib_t q2, ib_t q2, e, bd_s, X2_shutOf_v hN hR hX'.1 hO hw hx, bd_s, eu, bd_s, X7_shutOf_v hN (hU.scM su (by omega)).1 (rw4_rk hO w) lu hx, bd_s]
  exact ⟨_, _, _, rfl, rfl, hI u' su⟩
