/-! PURE 16: steps between bases -/
def ctr (f : Nat → Nat) : Nat → Nat
  | 0 => 0
  | n + 1 => ctr f n + f n
theorem ctr_s (f : Nat → Nat) (n : Nat) : ctr f (n + 1) = ctr f n + f n := rfl
theorem ctr_congr {f g : Nat → Nat} : ∀ {n : Nat}, (∀ i, i < n → f i = g i) → ctr f n = ctr g n
  | 0, _ => rfl
  | n + 1, h => by rw [ctr_s, ctr_s, ctr_congr fun i hi => h i (by omega), h n (by omega)]
theorem ctr_0 {n : Nat} : ctr (fun _ => 0) n = 0 := by
  induction n with
  | zero => rfl
  | succ n ih => rw [ctr_s, ih]
theorem ctr_add {f g : Nat → Nat} : ∀ {n : Nat}, ctr (fun i => f i + g i) n = ctr f n + ctr g n
  | 0 => rfl
  | n + 1 => by rw [ctr_s, ctr_s, ctr_s, ctr_add]; omega
theorem ctr_swap {f : Nat → Nat → Nat} {m : Nat} : ∀ {n : Nat}, ctr (fun i => ctr (f i) m) n = ctr (fun j => ctr (fun i => f i j) n) m
  | 0 => by rw [show ctr (fun j => ctr (fun i => f i j) 0) m = ctr (fun _ => 0) m from rfl, ctr_0]; rfl
  | n + 1 => by rw [ctr_s, ctr_swap, ← ctr_add]; rfl
theorem ctr_lt {f : Nat → Nat} {n : Nat} : ∀ {m : Nat}, m ≤ n → ctr f m = ctr (fun i => if i < m then f i else 0) n := by
  induction n with
  | zero => intro m h; rw [show m = 0 by omega]; rfl
  | succ n ih =>
    intro m h
    by_cases e : m = n + 1
    · subst e
      exact ctr_congr fun i hi => (if_pos hi).symm
    · rw [ctr_s, ih (by omega), if_neg (by omega)]; rfl
theorem ctr_list {f : Nat → Nat} : ∀ {n : Nat}, ctr f n = ((List.range n).map f).sum
  | 0 => rfl
  | n + 1 => by rw [ctr_s, List.range_succ, List.map_append, List.sum_append, ctr_list]; simp
theorem ups_ct {n a : Nat} {P : Nat → Bool} : ctr (fun i => ctr (fun j => if (decide (i < j) && (a.testBit i && (!a.testBit j && P (dif a (2 ^ i) ||| 2 ^ j)))) = true then 1 else 0) n) n = (ups n a).countP P := by
  unfold ups
  rw [List.countP_flatMap, ctr_list]
  congr 2
  funext i
  rw [Function.comp_apply, List.countP_flatMap, ctr_list]
  congr 2
  funext j
  rw [Function.comp_apply]
  cases decide (i < j) <;> cases a.testBit i <;> cases a.testBit j <;> cases q : P (dif a (2 ^ i) ||| 2 ^ j) <;> simp [q]
theorem mor_ct {n a : Nat} {P : Nat → Bool} : ctr (fun b => if (P b && (decide (a < b) && (pc (a ^^^ b) == 2 && pc b == pc a))) = true then 1 else 0) (2 ^ n) = (mor n a).countP P := by
  unfold mor
  rw [List.countP_filter, ctr_list]
  generalize List.range (2 ^ n) = l
  induction l with
  | nil => rfl
  | cons b l ih =>
    rw [List.map_cons, List.sum_cons, List.countP_cons, ih]
    omega
theorem steps_eq {n : Nat} {r : Nat → Nat} (h8 : n ≤ 8) : ctr (fun a => if isBs n r a = true then ctr (fun i => ctr (fun j => if (decide (i < j) && (a.testBit i && (!a.testBit j && isBs n r (dif a (2 ^ i) ||| 2 ^ j)))) = true then 1 else 0) n) n else 0) (2 ^ n) = ctr (fun b => ctr (fun a => if (isBs n r b && (isBs n r a && (pc (b ^^^ a) == 2))) = true then 1 else 0) b) (2 ^ n) := by
  have e1 : ctr (fun b => ctr (fun a => if (isBs n r b && (isBs n r a && (pc (b ^^^ a) == 2))) = true then 1 else 0) b) (2 ^ n) = ctr (fun b => ctr (fun a => if a < b then (if (isBs n r b && (isBs n r a && (pc (b ^^^ a) == 2))) = true then 1 else 0) else 0) (2 ^ n)) (2 ^ n) := ctr_congr fun b hb => ctr_lt (by omega)
  rw [e1, ctr_swap]
  refine ctr_congr fun a ha => ?_
  cases q : isBs n r a with
  | false =>
    rw [if_neg (by decide)]
    rw [show ctr (fun i => if a < i then (if (isBs n r i && (false && (pc (i ^^^ a) == 2))) = true then 1 else 0) else 0) (2 ^ n) = ctr (fun _ => 0) (2 ^ n) from ctr_congr fun b _ => by simp, ctr_0]
  | true =>
    rw [if_pos rfl, ups_ct, (List.isPerm_iff.mp (ups_mor n (by omega) a ha)).countP_eq, ← mor_ct]
    refine ctr_congr fun b _ => ?_
    rw [Nat.xor_comm b a]
    cases g : isBs n r b with
    | false => simp
    | true =>
      have a1 := (isBs_iff.mp q).2
      have b1 := (isBs_iff.mp g).2
      have : (pc b == pc a) = true := by rw [beq_iff_eq]; omega
      rw [this]
      by_cases c : a < b
      · simp [c]
      · simp [c]
theorem X2_stepsUp_v {N w x : Nat} {s : ST} {t : TB} (hN : 300 < N) (hR : RanksOK s t) (hn : s.1 1 = nI (tN t)) (hO : OKT t) (hw : w < 4) (hx : x < 2 ^ tN t) : X2_stepsUp N s (nI w) (nI x) = some (nI (ctr (fun i => ctr (fun j => if (decide (i < j) && (x.testBit i && (!x.testBit j && isBs (tN t) (rw4 t w) (dif x (2 ^ i) ||| 2 ^ j)))) = true then 1 else 0) (tN t)) (tN t))) := by
  have p8 := hO.p8
  have h8 := hO.1.2
  have inner : ∀ i c, i < tN t → X2_stepsUp_L2 s (nI w) (nI x) (nI i) N (nI (i + 1)) (nI c) = some (nI (c + ctr (fun j => if (decide (i < j) && (x.testBit i && (!x.testBit j && isBs (tN t) (rw4 t w) (dif x (2 ^ i) ||| 2 ^ j)))) = true then 1 else 0) (tN t))) := by
    intro i c hi
    have h := loopFrom (F := fun j m v => X2_stepsUp_L2 s (nI w) (nI x) (nI i) j (nI m) v) (t := nI (c + ctr (fun j => if (decide (i < j) && (x.testBit i && (!x.testBit j && isBs (tN t) (rw4 t w) (dif x (2 ^ i) ||| 2 ^ j)))) = true then 1 else 0) (tN t))) (i + 1) (tN t) (by omega) (fun m => nI (c + ctr (fun j => if (decide (i < j) && (x.testBit i && (!x.testBit j && isBs (tN t) (rw4 t w) (dif x (2 ^ i) ||| 2 ^ j)))) = true then 1 else 0) m)) (fun k j h1 h2 => by
        show X2_stepsUp_L2_b s (nI w) (nI x) (nI i) (X2_stepsUp_L2 s (nI w) (nI x) (nI i) k) (nI j) _ = _
        unfold X2_stepsUp_L2_b
        rw [hR.2.2.2.1, if_neg (by rw [nI_lep (by omega) (by omega)]; omega), X6_has_v (by omega) (by omega), bd_s, ctr_s, decide_eq_true (show i < j by omega), Bool.true_and]
        cases q : x.testBit i with
        | false => rw [ib_f rfl, if_neg (by simp), nm_u, nI_1] <;> rfl
        | true =>
          rw [ib_t rfl, X6_has_v (by omega) (by omega), bd_s]
          cases g : x.testBit j with
          | true => rw [ib_t rfl, if_neg (by simp), nm_u, nI_1] <;> rfl
          | false =>
            have hd : dif x (2 ^ i) < 2 ^ tN t := dif_lt hx
            have hl := or_two_lt hd h2
            rw [ib_f rfl, no_val (by omega), in_val (by omega), X2_isBase_v hR hn hO hw hl, bd_s]
            cases z : isBs (tN t) (rw4 t w) (dif x (2 ^ i) ||| 2 ^ j) with
            | false => rw [ib_f rfl, if_neg (by simp), nm_u, nI_1] <;> rfl
            | true =>
              rw [ib_t rfl, if_pos (by simp)]
              simp only [nm_u, nI_1]
              rfl) (fun k => by
        show X2_stepsUp_L2_b s (nI w) (nI x) (nI i) (X2_stepsUp_L2 s (nI w) (nI x) (nI i) k) (nI (tN t)) _ = _
        unfold X2_stepsUp_L2_b
        rw [hR.2.2.2.1, if_pos (by rw [nI_lep (by omega) (by omega)]; exact Nat.le_refl _)]) (k := N) (by omega)
    have z : ctr (fun j => if (decide (i < j) && (x.testBit i && (!x.testBit j && isBs (tN t) (rw4 t w) (dif x (2 ^ i) ||| 2 ^ j)))) = true then 1 else 0) (i + 1) = 0 := by
      rw [show ctr (fun j => if (decide (i < j) && (x.testBit i && (!x.testBit j && isBs (tN t) (rw4 t w) (dif x (2 ^ i) ||| 2 ^ j)))) = true then 1 else 0) (i + 1) = ctr (fun _ => 0) (i + 1) from ctr_congr fun j hj => by rw [decide_eq_false (show ¬ i < j by omega)]; rfl, ctr_0]
    rw [z, Nat.add_zero] at h
    exact h
  have h := loop0 (F := fun j i v => X2_stepsUp_L1 N s (nI w) (nI x) j (nI i) v) (t := nI (ctr (fun i => ctr (fun j => if (decide (i < j) && (x.testBit i && (!x.testBit j && isBs (tN t) (rw4 t w) (dif x (2 ^ i) ||| 2 ^ j)))) = true then 1 else 0) (tN t)) (tN t))) (tN t) (fun i => nI (ctr (fun i => ctr (fun j => if (decide (i < j) && (x.testBit i && (!x.testBit j && isBs (tN t) (rw4 t w) (dif x (2 ^ i) ||| 2 ^ j)))) = true then 1 else 0) (tN t)) i)) (fun k i hi => by
      show X2_stepsUp_L1_b N s (nI w) (nI x) (X2_stepsUp_L1 N s (nI w) (nI x) k) (nI i) _ = _
      unfold X2_stepsUp_L1_b
      rw [hR.2.2.2.1, if_neg (by rw [nI_lep (by omega) (by omega)]; omega), nm_u, nI_1, inner i _ hi, bd_s, nm_u, ctr_s]) (fun k => by
      show X2_stepsUp_L1_b N s (nI w) (nI x) (X2_stepsUp_L1 N s (nI w) (nI x) k) (nI (tN t)) _ = _
      unfold X2_stepsUp_L1_b
      rw [hR.2.2.2.1, if_pos (by rw [nI_lep (by omega) (by omega)]; exact Nat.le_refl _)]) (k := N) (by omega)
  unfold X2_stepsUp
  rw [l0]
  refine (congrArg (fun o => bd o fun e28 => some e28) h).trans ?_
  rw [bd_s]
theorem case_steps {k N : Nat} {s u : ST} (h : Inv k s u) (hk : k < 512) (hN : 300 < N) (v1 : Int32) : ∃ r s' u', X6_steps N s v1 = some (r, s') ∧ X7_steps N u v1 = some (r, u') ∧ Inv (k + 1) s' u' := by
  obtain ⟨t, s', hO, hX, hU, e, hR, hX', hSc, hI⟩ := h.sides hk hN
  have p8 := hO.p8
  have h8 := hO.1.2
  have hp := Nat.two_pow_pos (tN t)
  unfold X6_steps X7_steps
  rw [X6_isSide_v, X7_isSide_v, bd_s, bd_s]
  refine bc (b := inR v1 4) (fun q => ⟨_, _, _, by rw [ib_f q], by rw [ib_f q], h.mono⟩) fun q => ?_
  obtain ⟨w, hw, rfl⟩ := inR_t q (by omega)
  obtain ⟨u', eu, su, lu⟩ := X7_lay_v hN hU hO hw
  have hU' := hU.scM su (by omega)
  have a := loop0 (F := fun j i v => X6_steps_L1 N s' (nI (2 ^ tN t - 1)) (nI w) j (nI i) v) (t := nI (ctr (fun a => if isBs (tN t) (rw4 t w) a = true then ctr (fun i => ctr (fun j => if (decide (i < j) && (a.testBit i && (!a.testBit j && isBs (tN t) (rw4 t w) (dif a (2 ^ i) ||| 2 ^ j)))) = true then 1 else 0) (tN t)) (tN t) else 0) (2 ^ tN t))) (2 ^ tN t) (fun m => nI (ctr (fun a => if isBs (tN t) (rw4 t w) a = true then ctr (fun i => ctr (fun j => if (decide (i < j) && (a.testBit i && (!a.testBit j && isBs (tN t) (rw4 t w) (dif a (2 ^ i) ||| 2 ^ j)))) = true then 1 else 0) (tN t)) (tN t) else 0) m)) (fun j i hi => by
      show X6_steps_L1_b N s' (nI (2 ^ tN t - 1)) (nI w) (X6_steps_L1 N s' (nI (2 ^ tN t - 1)) (nI w) j) (nI i) _ = _
      unfold X6_steps_L1_b
      rw [if_neg (by rw [nI_ltp (by omega) (by omega)]; omega), X2_isBase_v hR hX'.1 hO hw hi, bd_s, ctr_s]
      cases q : isBs (tN t) (rw4 t w) i with
      | false => rw [ib_f rfl, if_neg (by decide), nm_u, nI_1] <;> rfl
      | true =>
        rw [ib_t rfl, if_pos rfl, X2_stepsUp_v hN hR hX'.1 hO hw hi, bd_s, nI_add]
        simp only [nm_u, nI_1]) (fun j => by
      show X6_steps_L1_b N s' (nI (2 ^ tN t - 1)) (nI w) (X6_steps_L1 N s' (nI (2 ^ tN t - 1)) (nI w) j) (nI (2 ^ tN t)) _ = _
      unfold X6_steps_L1_b
      rw [if_pos (by rw [nI_ltp (by omega) (by omega)]; omega)]) (k := N) (by omega)
  have inner : ∀ b c, b < 2 ^ tN t → X7_steps_L2 u' (nI b) N (nI 0) (nI c) = some (nI (c + ctr (fun a => if (isBs (tN t) (rw4 t w) b && (isBs (tN t) (rw4 t w) a && (pc (b ^^^ a) == 2))) = true then 1 else 0) b)) := by
    intro b c hb
    have h := loop0 (F := fun j m v => X7_steps_L2 u' (nI b) j (nI m) v) (t := nI (c + ctr (fun a => if (isBs (tN t) (rw4 t w) b && (isBs (tN t) (rw4 t w) a && (pc (b ^^^ a) == 2))) = true then 1 else 0) b)) b (fun m => nI (c + ctr (fun a => if (isBs (tN t) (rw4 t w) b && (isBs (tN t) (rw4 t w) a && (pc (b ^^^ a) == 2))) = true then 1 else 0) m)) (fun j i hi => by
        show X7_steps_L2_b u' (nI b) (X7_steps_L2 u' (nI b) j) (nI i) _ = _
        unfold X7_steps_L2_b
        have z0 : ∀ m, nI m + (0 : Int32) = nI m := fun m => by rw [l0, nI_add, Nat.add_zero]
        have hx : b ^^^ i < 2 ^ 8 := Nat.xor_lt_two_pow (by omega) (by omega)
        have hl := pc_le8 (b ^^^ i)
        rw [if_neg (by rw [nI_lep (by omega) (by omega)]; omega), inb_t (show b < 256 by omega) (by omega), gd_t, nI_clamp (by omega), (lu b hb).2.2, inb_t (show i < 256 by omega) (by omega), gd_t, nI_clamp (by omega), (lu i (by omega)).2.2, ctr_s]
        cases q : isBs (tN t) (rw4 t w) b with
        | false => rw [ib_f rfl, if_neg (by simp), z0, nm_u, nm_u, nI_1] <;> rfl
        | true =>
          rw [ib_t rfl]
          cases g : isBs (tN t) (rw4 t w) i with
          | false => rw [ib_f rfl, if_neg (by simp), z0, nm_u, nm_u, nI_1] <;> rfl
          | true =>
            rw [ib_t rfl, nx_xor, J6_bit_all _ (by omega), bd_s]
            by_cases z : pc (b ^^^ i) = 2
            · rw [if_pos (by rw [z]; rfl), if_pos (by rw [z]; rfl)]
              simp only [nm_u, nI_1]
              rfl
            · rw [if_neg (by rw [l2, nI_inj (by omega) (by omega)]; exact z), if_neg (by simp [z]), z0, nm_u, nm_u, nI_1] <;> rfl) (fun j => by
        show X7_steps_L2_b u' (nI b) (X7_steps_L2 u' (nI b) j) (nI b) _ = _
        unfold X7_steps_L2_b
        rw [if_pos (by rw [nI_lep (by omega) (by omega)]; exact Nat.le_refl _)]) (k := N) (by omega)
    exact h
  have b := loop0 (F := fun j i v => X7_steps_L1 N u' j (nI i) v) (t := nI (ctr (fun b => ctr (fun a => if (isBs (tN t) (rw4 t w) b && (isBs (tN t) (rw4 t w) a && (pc (b ^^^ a) == 2))) = true then 1 else 0) b) (2 ^ tN t))) (2 ^ tN t) (fun m => nI (ctr (fun b => ctr (fun a => if (isBs (tN t) (rw4 t w) b && (isBs (tN t) (rw4 t w) a && (pc (b ^^^ a) == 2))) = true then 1 else 0) b) m)) (fun j i hi => by
      show X7_steps_L1_b N u' (X7_steps_L1 N u' j) (nI i) _ = _
      unfold X7_steps_L1_b
      rw [X7_all_v hU'.1 h8, bd_s, if_neg (by rw [nI_ltp (by omega) (by omega)]; omega), l0, inner i _ hi, bd_s, nm_u, nI_1, ctr_s]) (fun j => by
      show X7_steps_L1_b N u' (X7_steps_L1 N u' j) (nI (2 ^ tN t)) _ = _
      unfold X7_steps_L1_b
      rw [X7_all_v hU'.1 h8, bd_s, if_pos (by rw [nI_ltp (by omega) (by omega)]; omega)]) (k := N) (by omega)
  rw [steps_eq h8] at a
  have z : ∀ f : Nat → Nat, nI (ctr f 0) = nI 0 := fun _ => rfl
  rw [z] at a b
  rw [ib_t q, ib_t q, e, bd_s, X4_all_v hX'.1 h8, bd_s, l0, a, bd_s, eu, bd_s, b, bd_s]
  exact ⟨_, _, _, rfl, rfl, hI u' su⟩
