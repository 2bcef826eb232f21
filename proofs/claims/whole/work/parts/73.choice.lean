/-! PURE 28: the class's choice: one option for each item, first by first -/
def us (g : Nat → Nat) : Nat → Nat
  | 0 => 0
  | i + 1 => us g i ||| 2 ^ g i
theorem us_s (g : Nat → Nat) (i : Nat) : us g (i + 1) = us g i ||| 2 ^ g i := rfl
theorem us_cg {g h : Nat → Nat} : ∀ {i : Nat}, (∀ j, j < i → g j = h j) → us g i = us h i
  | 0, _ => rfl
  | i + 1, q => by rw [us_s, us_s, us_cg fun j hj => q j (by omega), q i (by omega)]
def IsFst (p : Nat → Bool) (v : Nat) : Prop := p v = true ∧ ∀ j, j < v → p j = false
theorem IsFst.un {p : Nat → Bool} {v w : Nat} (h : IsFst p v) (g : IsFst p w) : v = w := by
  rcases Nat.lt_trichotomy v w with c | c | c
  · have z := h.1
    rw [g.2 v c] at z; cases z
  · exact c
  · have z := g.1
    rw [h.2 w c] at z; cases z
/-- item i may take v when u are taken -/
def okv (A : Nat → Nat) (E : Nat → Bool) (i u v : Nat) : Bool := (A i).testBit v && (!u.testBit v && E (u ||| 2 ^ v))
/-- what E must say: what is taken leaves something for each item that follows -/
def EndsOK (A : Nat → Nat) (E : Nat → Bool) (m c : Nat) : Prop := ∀ u, u < 2 ^ c → (m ≤ pc u → E u = true) ∧ (pc u < m → (E u = true ↔ ∃ v, v < c ∧ okv A E (pc u) u v = true))
def Greedy (A : Nat → Nat) (E : Nat → Bool) (m c : Nat) (g : Nat → Nat) : Prop := ∀ i, i < m → g i < c ∧ IsFst (okv A E i (us g i)) (g i)
theorem us_lt {g : Nat → Nat} {c : Nat} : ∀ {i : Nat}, (∀ j, j < i → g j < c) → us g i < 2 ^ c
  | 0, _ => Nat.two_pow_pos c
  | i + 1, h => or_two_lt (us_lt fun j hj => h j (by omega)) (h i (by omega))
theorem us_pc {A : Nat → Nat} {E : Nat → Bool} {c : Nat} {g : Nat → Nat} (h8 : c ≤ 8) : ∀ {i : Nat}, (∀ j, j < i → g j < c ∧ IsFst (okv A E j (us g j)) (g j)) → pc (us g i) = i
  | 0, _ => pc_0
  | i + 1, h => by
    have ih := us_pc (i := i) h8 fun j hj => h j (by omega)
    obtain ⟨h1, h2, -⟩ := h i (by omega)
    unfold okv at h2
    rw [Bool.and_eq_true, Bool.and_eq_true, Bool.not_eq_true'] at h2
    rw [us_s, pc_add (by omega) h2.2.1, ih]
/-- the first option, or none -/
theorem leastOption_v {N i u c : Nat} {s : ST} {A : Nat → Nat} {E : Nat → Bool} (hN : 300 < N) (h8 : c ≤ 8) (hu : u < 2 ^ c) (hi : i < 8) (hA : s.2.1 9 i = nI (A i)) (hAl : A i < 256) (hE : ∀ v, v < c → u.testBit v = false → s.2.1 10 (u ||| 2 ^ v) = bI (E (u ||| 2 ^ v))) : (∃ v, v < c ∧ IsFst (okv A E i u) v ∧ X0_leastOption N s (nI i) (nI u) (nI c) = some (nI v)) ∨ ((∀ v, v < c → okv A E i u v = false) ∧ X0_leastOption N s (nI i) (nI u) (nI c) = some (-1)) := by
  have p8 := pow8 h8
  have h := loopSearch (F := fun k j => X0_leastOption_L1 s (nI i) (nI u) (nI c) k (nI j)) c (okv A E i u) (fun v => Sum.inl (nI v)) (Sum.inr ()) (fun k v hv => by
    show X0_leastOption_L1_b s (nI i) (nI u) (nI c) (X0_leastOption_L1 s (nI i) (nI u) (nI c) k) (nI v) = _
    unfold X0_leastOption_L1_b
    have hl := or_two_lt hu hv
    have hd := dif_lt (b := u) (show A i < 2 ^ 8 from hAl)
    rw [if_neg (by rw [nI_lep (by omega) (by omega)]; omega), inb_t hi (by omega), gd_t, nI_clamp (by omega), hA, nx_not, X6_has_v (by omega) (by omega), bd_s, dif_tb, in_val (by omega)]
    unfold okv
    cases q : (A i).testBit v with
    | false => rw [Bool.false_and, ib_f rfl, nm_u, nI_1]; rfl
    | true =>
      cases g : u.testBit v with
      | true => rw [show (true && !true) = false from rfl, ib_f rfl, nm_u, nI_1]; rfl
      | false =>
        rw [show (true && !false) = true from rfl, ib_t rfl, inb_t (show u ||| 2 ^ v < 256 by omega) (by omega), gd_t, nI_clamp (by omega), hE v hv g]
        cases w : E (u ||| 2 ^ v) with
        | false => rw [ib_f rfl, nm_u, nI_1]; rfl
        | true => rw [ib_t rfl]; rfl) (fun k => by
    show X0_leastOption_L1_b s (nI i) (nI u) (nI c) (X0_leastOption_L1 s (nI i) (nI u) (nI c) k) (nI c) = _
    unfold X0_leastOption_L1_b
    rw [if_pos (by rw [nI_lep (by omega) (by omega)]; exact Nat.le_refl _)]) (k := N) (by omega)
  unfold X0_leastOption
  rw [l0]
  rcases h with ⟨v, v1, v2, v3, e⟩ | ⟨v1, e⟩
  · exact Or.inl ⟨v, v1, ⟨v2, v3⟩, by rw [e, bd_s]; rfl⟩
  · exact Or.inr ⟨v1, by rw [e, bd_s]; rfl⟩
theorem m1_ne {v : Nat} (h : v < 2 ^ 31) : nI v ≠ (-1 : Int32) := fun q => by
  have := congrArg Int32.toInt q
  rw [nI_toInt h, show (-1 : Int32).toInt = -1 from by decide] at this
  omega
theorem pc_lt_or {u v : Nat} (h8 : v < 8) (h : u.testBit v = false) : u < u ||| 2 ^ v := lt_ne (sub_or_l _ _) fun z => by
  have := congrArg (fun x => x.testBit v) z
  rw [Nat.testBit_or, tb_two, h] at this
  simp at this
/-- the table of ends, filled from above: down to i -/
theorem ends_v {N m c : Nat} {s : ST} {A : Nat → Nat} {E : Nat → Bool} (hN : 300 < N) (hc : c ≤ 8) (hm : m ≤ 8) (hs : s.1 10 = nI m) (hA : ∀ i, i < m → s.2.1 9 i = nI (A i) ∧ A i < 256) (hE : EndsOK A E m c) : ∃ f, X0_isMade_L1 N (nI c) N (nI (2 ^ c) + (-1 : Int32)) s = some (sA s 10 f) ∧ ∀ u, u < 2 ^ c → f u = bI (E u) := by
  have p8 := pow8 hc
  have hp := Nat.two_pow_pos c
  obtain ⟨z, e, f, hz, hf⟩ := loopInv0 (F := fun k a (z : ST) => X0_isMade_L1 N (nI c) k (nI (2 ^ c - a) + (-1 : Int32)) z) (Q := fun z => ∃ f, z = sA s 10 f ∧ ∀ u, u < 2 ^ c → f u = bI (E u)) (fun a z => ∃ f, z = sA s 10 f ∧ ∀ u, 2 ^ c - a ≤ u → u < 2 ^ c → f u = bI (E u)) (2 ^ c) (fun k a z ha ⟨f, hz, hf⟩ => by
    subst hz
    obtain ⟨d, hd⟩ : ∃ d, 2 ^ c - a = d + 1 := ⟨2 ^ c - a - 1, by omega⟩
    have hd' : 2 ^ c - (a + 1) = d := by omega
    have hdc : d < 2 ^ c := by omega
    have pd := pc_le8 d
    refine ⟨sA s 10 (upd f d (bI (E d))), ⟨upd f d (bI (E d)), rfl, fun u h1 h2 => ?_⟩, ?_⟩
    · rw [upd_q]
      by_cases q : u = d
      · rw [if_pos q, q]
      · rw [if_neg q]; exact hf u (by omega) h2
    · show X0_isMade_L1_b N (nI c) (X0_isMade_L1 N (nI c) k) _ _ = _
      rw [hd, nI_m1' (by omega), hd', show d + 1 - 1 = d by omega]
      unfold X0_isMade_L1_b
      obtain ⟨g1, g2⟩ := hE d hdc
      rw [if_neg (by rw [l0, nI_ltp (by omega) (by omega)]; omega), J6_bit_all _ (by omega), bd_s, st_AI, hs, inb_t (show d < 256 by omega) (by omega)]
      by_cases q : m ≤ pc d
      · rw [if_pos (by rw [nI_lep (by omega) (by omega)]; exact q), gd_t, show bz (1 : Int32) = true from rfl, gd_t, nI_clamp (by omega)]
        simp only [nm_u, sA_sA, st_AA, if_true]
        rw [g1 q]; rfl
      · rw [if_neg (by rw [nI_lep (by omega) (by omega)]; exact q)]
        have g2 := g2 (by omega)
        rcases leastOption_v (N := N) (s := sA s 10 f) (A := A) (E := E) (i := pc d) (u := d) (c := c) hN hc hdc (by omega) (hA _ (by omega)).1 (hA _ (by omega)).2 (fun v hv hdv => hf _ (by have := pc_lt_or (by omega) hdv; omega) (or_two_lt hdc hv)) with ⟨v, v1, v2, v3⟩ | ⟨v1, v2⟩
        · rw [v3, bd_s, if_neg (m1_ne (by omega)), gd_t, show bz (1 : Int32) = true from rfl, gd_t, nI_clamp (by omega)]
          simp only [nm_u, sA_sA, st_AA, if_true]
          rw [g2.mpr ⟨v, v1, v2.1⟩]; rfl
        · rw [v2, bd_s, if_pos rfl, gd_t, show bz (0 : Int32) = true from rfl, gd_t, nI_clamp (by omega)]
          simp only [nm_u, sA_sA, st_AA, if_true]
          have : E d = false := by
            cases w : E d with
            | false => rfl
            | true =>
              obtain ⟨v, w1, w2⟩ := g2.mp w
              rw [v1 v w1] at w2; cases w2
          rw [this]; rfl) (fun k z ⟨f, hz, hf⟩ => by
    subst hz
    refine ⟨_, ?_, f, rfl, fun u hu => hf u (by omega) hu⟩
    show X0_isMade_L1_b N (nI c) (X0_isMade_L1 N (nI c) k) _ _ = _
    unfold X0_isMade_L1_b
    rw [show 2 ^ c - 2 ^ c = 0 by omega, if_pos (by decide)]) (k := N) (by omega) (a := s) ⟨s.2.1 10, (sA_id s 10).symm, fun u h1 h2 => by omega⟩
  subst hz
  exact ⟨f, e, hf⟩
theorem isMade_v {N m c : Nat} {s : ST} {A : Nat → Nat} {E : Nat → Bool} (hN : 300 < N) (hc : c ≤ 8) (hm : m ≤ 8) (hs : s.1 10 = nI m) (hA : ∀ i, i < m → s.2.1 9 i = nI (A i) ∧ A i < 256) (hE : EndsOK A E m c) : ∃ s', X0_isMade N s (nI c) = some (bI (E 0), s') ∧ s'.1 = s.1 ∧ (∀ q, q ≠ 8 → q ≠ 10 → s'.2.1 q = s.2.1 q) ∧ s'.2.2 = s.2.2 ∧ (E 0 = true → ∃ g, Greedy A E m c g ∧ ∀ i, i < m → s'.2.1 8 i = nI (g i)) := by
  have p8 := pow8 hc
  have hp := Nat.two_pow_pos c
  obtain ⟨f, e1, hf⟩ := ends_v (N := N) hN hc hm hs hA hE
  unfold X0_isMade
  rw [nm_u, all_val hc, ← nI_m1' hp, e1, bd_s, show inb (0 : Int32) 256 = true from inb_t (i := 0) (by omega) (by omega), gd_t, c0, st_AA, if_pos rfl, hf 0 hp]
  cases q : E 0 with
  | false =>
    rw [ib_f rfl]
    exact ⟨_, rfl, rfl, fun a h1 h2 => by rw [st_AA, if_neg h2], rfl, fun z => by cases z⟩
  | true =>
    rw [ib_t rfl]
    obtain ⟨z, e, g, x, hz, hg, hx, -⟩ := loopInv0 (F := fun k i (z : Int32 × ST) => X0_isMade_L2 N (nI c) k (nI i) z.1 z.2) (Q := fun z => ∃ g x, z = Sum.inr (sA (sA s 10 f) 8 x) ∧ Greedy A E m c g ∧ (∀ i, i < m → x i = nI (g i)) ∧ True) (fun i z => ∃ g x, z = (nI (us g i), sA (sA s 10 f) 8 x) ∧ (∀ j, j < i → g j < c ∧ IsFst (okv A E j (us g j)) (g j)) ∧ (∀ j, j < i → x j = nI (g j)) ∧ E (us g i) = true) m (fun k i z hi ⟨g, x, hz, hg, hx, hEi⟩ => by
      subst hz
      have ul := us_lt (fun j hj => (hg j hj).1)
      have up := us_pc hc hg
      obtain ⟨-, g2⟩ := hE (us g i) ul
      have g2 := (g2 (by omega)).mp hEi
      rw [up] at g2
      show ∃ z', _ ∧ X0_isMade_L2_b N (nI c) (X0_isMade_L2 N (nI c) k) (nI i) (nI (us g i)) _ = _
      unfold X0_isMade_L2_b
      rw [show (sA (sA s 10 f) 8 x).1 10 = nI m from hs, if_neg (by rw [nI_lep (by omega) (by omega)]; omega)]
      rcases leastOption_v (N := N) (s := sA (sA s 10 f) 8 x) (A := A) (E := E) (i := i) (u := us g i) (c := c) hN hc ul (by omega) (hA i hi).1 (hA i hi).2 (fun v hv _ => hf _ (or_two_lt ul hv)) with ⟨v, v1, v2, v3⟩ | ⟨v1, v2⟩
      · have uc : us (up1 g i v) i = us g i := us_cg fun j hj => if_neg (by omega)
        have gi : up1 g i v i = v := if_pos rfl
        refine ⟨(nI (us (up1 g i v) (i + 1)), sA (sA s 10 f) 8 (upd x i (nI v))), ⟨up1 g i v, _, rfl, fun j hj => ?_, fun j hj => ?_, ?_⟩, ?_⟩
        · by_cases w : j = i
          · subst w
            rw [uc, gi]; exact ⟨v1, v2⟩
          · have : up1 g i v j = g j := if_neg w
            rw [this, us_cg (g := up1 g i v) (h := g) fun l hl => if_neg (by omega)]
            exact hg j (by omega)
        · rw [upd_q]
          by_cases w : j = i
          · rw [if_pos w, w, gi]
          · rw [if_neg w, show up1 g i v j = g j from if_neg w]
            exact hx j (by omega)
        · rw [us_s, uc, gi]
          have := v2.1
          unfold okv at this
          rw [Bool.and_eq_true, Bool.and_eq_true] at this
          exact this.2.2
        · rw [v3, bd_s, if_neg (m1_ne (by omega)), inb_t (show i < 8 by omega) (by omega), gd_t, nI_clamp (by omega), in_val (by omega)]
          simp only [nm_u, nI_1, sA_sA]
          rw [us_s, uc, gi]
          rfl
      · obtain ⟨v, w1, w2⟩ := g2
        rw [v1 v w1] at w2; cases w2) (fun k z ⟨g, x, hz, hg, hx, hEi⟩ => by
      subst hz
      refine ⟨_, ?_, g, x, rfl, hg, hx, trivial⟩
      show X0_isMade_L2_b N (nI c) (X0_isMade_L2 N (nI c) k) (nI m) (nI (us g m)) _ = _
      unfold X0_isMade_L2_b
      rw [show (sA (sA s 10 f) 8 x).1 10 = nI m from hs, if_pos (by rw [nI_lep (by omega) (by omega)]; exact Nat.le_refl _)]) (k := N) (by omega) (a := (nI 0, sA s 10 f)) ⟨fun _ => 0, (sA s 10 f).2.1 8, by rw [sA_id]; rfl, fun j hj => absurd hj (Nat.not_lt_zero j), fun j hj => absurd hj (Nat.not_lt_zero j), q⟩
    subst hz
    rw [l0, e, bd_s]
    refine ⟨_, rfl, rfl, fun a h1 h2 => by rw [st_AA, if_neg h1, st_AA, if_neg h2], rfl, fun _ => ⟨g, hg, fun i hi => ?_⟩⟩
    rw [st_AA, if_pos rfl]
    exact hx i hi
