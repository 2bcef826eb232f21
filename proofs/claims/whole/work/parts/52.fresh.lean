/-! PURE 7: the table that both sides hold; the class's ranks made anew -/
abbrev TB : Type := Nat × Nat × Nat × (Nat → Nat) × (Nat → Nat) × (Nat → Nat)
def tN (t : TB) : Nat := t.1
def tT (t : TB) : Nat := t.2.1
def tK (t : TB) : Nat := t.2.2.1
def tR (t : TB) : Nat → Nat := t.2.2.2.1
def tW (t : TB) : Nat → Nat := t.2.2.2.2.1
def tF (t : TB) : Nat → Nat := t.2.2.2.2.2
def OKT (t : TB) : Prop := (1 ≤ tN t ∧ tN t ≤ 8) ∧ tT t < 2 ^ tN t ∧ tK t ≤ 8 ∧ (∀ i, i < 8 → tR t i < 2 ^ tN t ∧ (tR t i).testBit i = false) ∧ (∀ i, i < 8 → tW t i ≤ 99) ∧ ∀ j, j < tK t → tF t j < 2 ^ tN t
def XT (s : ST) (p a : Nat) (t : TB) : Prop := s.1 p = nI (tN t) ∧ s.1 (p + 1) = nI (tT t) ∧ s.1 (p + 2) = nI (tK t) ∧ (∀ i, i < 8 → s.2.1 a i = nI (tR t i)) ∧ (∀ i, i < 8 → s.2.1 (a + 1) i = nI (tW t i)) ∧ ∀ j, j < tK t → s.2.1 (a + 2) j = nI (tF t j)
/-- the most of some f of a set without one of its posts -/
def mxB (x : Nat) (f : Nat → Nat) (s : Nat) : Nat → Nat
  | 0 => s
  | i + 1 => if x.testBit i = true then max (mxB x f s i) (f (dif x (2 ^ i))) else mxB x f s i
theorem mxB_le {x s R : Nat} {f : Nat → Nat} (hs : s ≤ R) : ∀ {n : Nat}, (∀ i, i < n → x.testBit i = true → f (dif x (2 ^ i)) ≤ R) → mxB x f s n ≤ R
  | 0, _ => hs
  | n + 1, h => by
    have ih := mxB_le (n := n) hs fun i hi => h i (by omega)
    unfold mxB
    split
    · exact Nat.max_le.mpr ⟨ih, h n (by omega) (by assumption)⟩
    · exact ih
theorem mxB_s {x s : Nat} {f : Nat → Nat} : ∀ {n : Nat}, s ≤ mxB x f s n
  | 0 => Nat.le_refl _
  | n + 1 => by
    have ih := mxB_s (x := x) (s := s) (f := f) (n := n)
    unfold mxB
    split
    · exact Nat.le_trans ih (Nat.le_max_left _ _)
    · exact ih
theorem mxB_i {x s i : Nat} {f : Nat → Nat} (hx : x.testBit i = true) : ∀ {n : Nat}, i < n → f (dif x (2 ^ i)) ≤ mxB x f s n
  | 0, h => by omega
  | n + 1, h => by
    unfold mxB
    by_cases q : i = n
    · subst q
      rw [if_pos hx]
      exact Nat.le_max_right _ _
    · have ih := mxB_i (s := s) (f := f) hx (n := n) (by omega)
      split
      · exact Nat.le_trans ih (Nat.le_max_left _ _)
      · exact ih
/-- the rank of a set that isn't free is the most of those without a post -/
theorem mxB_rk {n x : Nat} {r : Nat → Nat} (h : RK n r) (hx : x < 2 ^ n) (hf : r x ≠ pc x) : mxB x r 0 n = r x := by
  have q := h.le_pc hx
  obtain ⟨i, h1, h2, h3⟩ := h.less hx (by omega)
  refine Nat.le_antisymm (mxB_le (Nat.zero_le _) fun i _ _ => h.mono hx (sub_dif x _)) ?_
  have := mxB_i (s := 0) (f := r) h2 h1
  omega
theorem mxB_fr {n x : Nat} {r : Nat → Nat} (h : RK n r) (hx : x < 2 ^ n) (hf : r x = pc x) : mxB x r (pc x) n = r x := by
  refine Nat.le_antisymm (mxB_le (by omega) fun i _ _ => h.mono hx (sub_dif x _)) ?_
  rw [hf]; exact mxB_s
theorem mxB_congr {x s : Nat} {f g : Nat → Nat} : ∀ {n : Nat}, (∀ i, i < n → x.testBit i = true → f (dif x (2 ^ i)) = g (dif x (2 ^ i))) → mxB x f s n = mxB x g s n
  | 0, _ => rfl
  | n + 1, h => by
    unfold mxB
    rw [mxB_congr fun i hi => h i (by omega)]
    by_cases q : x.testBit n = true
    · rw [if_pos q, if_pos q, h n (by omega) q]
    · rw [if_neg q, if_neg q]
theorem dif_two_lt {x e : Nat} (h : x.testBit e = true) : dif x (2 ^ e) < x := by
  have a := sub_le (sub_dif x (2 ^ e))
  have b : dif x (2 ^ e) ≠ x := fun q => by
    have c := dif_tb x (2 ^ e) e
    rw [q, h, tb_two] at c
    simp at c
  omega
theorem max_if (a b : Nat) (ha : a < 2 ^ 31) (hb : b < 2 ^ 31) : (if nI a < nI b then nI b else nI a) = nI (max a b) := by
  by_cases h : a < b
  · rw [if_pos (by rw [nI_ltp ha hb]; exact h), Nat.max_eq_right (by omega)]
  · rw [if_neg (by rw [nI_ltp ha hb]; exact h), Nat.max_eq_left (by omega)]
/-- a post taken out -/
theorem no_val {x e : Nat} (he : e < 8) : nI x &&& (((1 : Int32) <<< (nI e &&& 31)) ^^^ (-1 : Int32)) = nI (dif x (2 ^ e)) := by
  rw [nx_shl1 (by omega), nx_not]
theorem in_val {x e : Nat} (he : e < 8) : nI x ||| ((1 : Int32) <<< (nI e &&& 31)) = nI (x ||| 2 ^ e) := by
  rw [nx_shl1 (by omega), nx_or]
theorem X2_greatestWithin_a16_v {k n x : Nat} {s : ST} {f : Nat → Nat} (hk : 8 < k) (h8 : n ≤ 8) (hn : s.1 20 = nI n) (hx : x < 256) (hf : ∀ y, y < x → s.2.1 6 y = nI (f y)) (hb : ∀ y, y < x → f y ≤ 8) : X2_greatestWithin_a16 k s (nI x) = some (nI (mxB x f 0 n)) := by
  have hm : ∀ i, i ≤ n → mxB x f 0 i ≤ 8 := fun i hi => mxB_le (by omega) fun j _ hj => hb _ (dif_two_lt hj)
  unfold X2_greatestWithin_a16
  have h := loop0 (F := fun k i v => X2_greatestWithin_a16_L1 s (nI x) k (nI i) v) (t := nI (mxB x f 0 n)) n (fun i => nI (mxB x f 0 i)) (fun k i hi => by
      show X2_greatestWithin_a16_L1_b s (nI x) (X2_greatestWithin_a16_L1 s (nI x) k) (nI i) _ = _
      unfold X2_greatestWithin_a16_L1_b
      rw [hn, if_neg (by rw [nI_lep (by omega) (by omega)]; omega), X6_has_v (by omega) (by omega), bd_s]
      by_cases q : x.testBit i = true
      · have hd := dif_two_lt q
        have := hm i (by omega)
        have := hb _ hd
        rw [ib_t q, no_val (by omega), inb_t (show dif x (2 ^ i) < 256 by omega) (by omega), gd_t]
        simp only [nm_u, nI_clamp (show dif x (2 ^ i) < 2 ^ 31 by omega), hf _ hd, nI_1]
        rw [max_if _ _ (by omega) (by omega)]
        rw [show mxB x f 0 (i + 1) = max (mxB x f 0 i) (f (dif x (2 ^ i))) from if_pos q]
      · rw [ib_f (by simpa using q)]
        simp only [nm_u, nI_1]
        rw [show mxB x f 0 (i + 1) = mxB x f 0 i from if_neg q]) (fun k => by
      show X2_greatestWithin_a16_L1_b s (nI x) (X2_greatestWithin_a16_L1 s (nI x) k) (nI n) _ = _
      unfold X2_greatestWithin_a16_L1_b
      rw [hn, if_pos (by rw [nI_lep (by omega) (by omega)]; exact Nat.le_refl _)]) (k := k) (by omega)
  rw [show (0 : Int32) = nI 0 from rfl]
  rw [show mxB x f 0 0 = 0 from rfl] at h
  rw [h, bd_s]
theorem X2_fill_a16_a13_v {k n m : Nat} {s : ST} {A : Nat → Nat} (hk : 300 < k) (hn : s.1 20 = nI n) (ha : s.1 21 = nI (2 ^ n - 1)) (h8 : n ≤ 8) (hM : MB13 s A m) : X2_fill_a16_a13 k s = some (sA s 6 (fl (s.2.1 6) (fun x => nI (gr A m x)) (2 ^ n))) := by
  have p8 := pow8 h8
  have hp := Nat.two_pow_pos n
  have hr := gr_rk A m h8
  have hle : ∀ y, y < 2 ^ n → gr A m y ≤ 8 := fun y hy => Nat.le_trans (hr.le_pc hy) (pc_le8 y)
  unfold X2_fill_a16_a13
  have h := loop0 (F := fun j i (z : ST) => X2_fill_a16_a13_L1 k j (nI i) z) (t := sA s 6 (fl (s.2.1 6) (fun x => nI (gr A m x)) (2 ^ n))) (2 ^ n) (fun i => sA s 6 (fl (s.2.1 6) (fun x => nI (gr A m x)) i)) (fun j i hi => by
      show X2_fill_a16_a13_L1_b k (X2_fill_a16_a13_L1 k j) (nI i) _ = _
      unfold X2_fill_a16_a13_L1_b
      have hM' : MB13 (sA s 6 (fl (s.2.1 6) (fun x => nI (gr A m x)) i)) A m := hM
      rw [st_AI, ha, if_neg (by rw [nI_ltp (by omega) (by omega)]; omega), X1_holds_13_v hM' (by omega), bd_s]
      have hfr : gr A m i = pc i ↔ mt A m i = true := (gr_free (by omega)).trans (mt_iff (by omega)).symm
      by_cases q : mt A m i = true
      · rw [ib_t q, J6_bit_all _ (by omega), bd_s, inb_t (show i < 256 by omega) (by omega), gd_t]
        simp only [nm_u, nI_clamp (show i < 2 ^ 31 by omega), nI_1, st_AA, if_true, sA_sA]
        rw [← hfr.mpr q, fl_u (s.2.1 6) (fun x => nI (gr A m x)) i]
      · have g := X2_greatestWithin_a16_v (k := k) (s := sA s 6 (fl (s.2.1 6) (fun x => nI (gr A m x)) i)) (f := gr A m) (by omega) h8 hn (show i < 256 by omega) (fun y hy => by simp only [st_AA, if_true]; rw [fl_in hy]) (fun y hy => hle y (by omega))
        rw [ib_f (by simpa using q), g, bd_s, inb_t (show i < 256 by omega) (by omega), gd_t]
        simp only [nm_u, nI_clamp (show i < 2 ^ 31 by omega), nI_1, st_AA, if_true, sA_sA]
        rw [mxB_rk hr hi (fun z => q (hfr.mp z)), fl_u (s.2.1 6) (fun x => nI (gr A m x)) i]) (fun j => by
      show X2_fill_a16_a13_L1_b k (X2_fill_a16_a13_L1 k j) (nI (2 ^ n)) _ = _
      unfold X2_fill_a16_a13_L1_b
      rw [st_AI, ha, if_pos (by rw [nI_ltp (by omega) (by omega)]; omega)]) (k := k) (by omega)
  rw [fl_0, sA_id] at h
  rw [show (0 : Int32) = nI 0 from rfl, h, bd_s]
theorem X2_greatestWithin_a17_v {k n x : Nat} {s : ST} {f : Nat → Nat} (hk : 8 < k) (h8 : n ≤ 8) (hn : s.1 20 = nI n) (hx : x < 256) (hf : ∀ y, y < x → s.2.1 7 y = nI (f y)) (hb : ∀ y, y < x → f y ≤ 8) : X2_greatestWithin_a17 k s (nI x) = some (nI (mxB x f 0 n)) := by
  have hm : ∀ i, i ≤ n → mxB x f 0 i ≤ 8 := fun i hi => mxB_le (by omega) fun j _ hj => hb _ (dif_two_lt hj)
  unfold X2_greatestWithin_a17
  have h := loop0 (F := fun k i v => X2_greatestWithin_a17_L1 s (nI x) k (nI i) v) (t := nI (mxB x f 0 n)) n (fun i => nI (mxB x f 0 i)) (fun k i hi => by
      show X2_greatestWithin_a17_L1_b s (nI x) (X2_greatestWithin_a17_L1 s (nI x) k) (nI i) _ = _
      unfold X2_greatestWithin_a17_L1_b
      rw [hn, if_neg (by rw [nI_lep (by omega) (by omega)]; omega), X6_has_v (by omega) (by omega), bd_s]
      by_cases q : x.testBit i = true
      · have hd := dif_two_lt q
        have := hm i (by omega)
        have := hb _ hd
        rw [ib_t q, no_val (by omega), inb_t (show dif x (2 ^ i) < 256 by omega) (by omega), gd_t]
        simp only [nm_u, nI_clamp (show dif x (2 ^ i) < 2 ^ 31 by omega), hf _ hd, nI_1]
        rw [max_if _ _ (by omega) (by omega)]
        rw [show mxB x f 0 (i + 1) = max (mxB x f 0 i) (f (dif x (2 ^ i))) from if_pos q]
      · rw [ib_f (by simpa using q)]
        simp only [nm_u, nI_1]
        rw [show mxB x f 0 (i + 1) = mxB x f 0 i from if_neg q]) (fun k => by
      show X2_greatestWithin_a17_L1_b s (nI x) (X2_greatestWithin_a17_L1 s (nI x) k) (nI n) _ = _
      unfold X2_greatestWithin_a17_L1_b
      rw [hn, if_pos (by rw [nI_lep (by omega) (by omega)]; exact Nat.le_refl _)]) (k := k) (by omega)
  rw [show (0 : Int32) = nI 0 from rfl]
  rw [show mxB x f 0 0 = 0 from rfl] at h
  rw [h, bd_s]
theorem X2_fill_a17_a10_v {k n m : Nat} {s : ST} {A : Nat → Nat} (hk : 300 < k) (hn : s.1 20 = nI n) (ha : s.1 21 = nI (2 ^ n - 1)) (h8 : n ≤ 8) (hM : MB10 s A m) : X2_fill_a17_a10 k s = some (sA s 7 (fl (s.2.1 7) (fun x => nI (gr A m x)) (2 ^ n))) := by
  have p8 := pow8 h8
  have hp := Nat.two_pow_pos n
  have hr := gr_rk A m h8
  have hle : ∀ y, y < 2 ^ n → gr A m y ≤ 8 := fun y hy => Nat.le_trans (hr.le_pc hy) (pc_le8 y)
  unfold X2_fill_a17_a10
  have h := loop0 (F := fun j i (z : ST) => X2_fill_a17_a10_L1 k j (nI i) z) (t := sA s 7 (fl (s.2.1 7) (fun x => nI (gr A m x)) (2 ^ n))) (2 ^ n) (fun i => sA s 7 (fl (s.2.1 7) (fun x => nI (gr A m x)) i)) (fun j i hi => by
      show X2_fill_a17_a10_L1_b k (X2_fill_a17_a10_L1 k j) (nI i) _ = _
      unfold X2_fill_a17_a10_L1_b
      have hM' : MB10 (sA s 7 (fl (s.2.1 7) (fun x => nI (gr A m x)) i)) A m := hM
      rw [st_AI, ha, if_neg (by rw [nI_ltp (by omega) (by omega)]; omega), X1_holds_10_v hM' (by omega), bd_s]
      have hfr : gr A m i = pc i ↔ mt A m i = true := (gr_free (by omega)).trans (mt_iff (by omega)).symm
      by_cases q : mt A m i = true
      · rw [ib_t q, J6_bit_all _ (by omega), bd_s, inb_t (show i < 256 by omega) (by omega), gd_t]
        simp only [nm_u, nI_clamp (show i < 2 ^ 31 by omega), nI_1, st_AA, if_true, sA_sA]
        rw [← hfr.mpr q, fl_u (s.2.1 7) (fun x => nI (gr A m x)) i]
      · have g := X2_greatestWithin_a17_v (k := k) (s := sA s 7 (fl (s.2.1 7) (fun x => nI (gr A m x)) i)) (f := gr A m) (by omega) h8 hn (show i < 256 by omega) (fun y hy => by simp only [st_AA, if_true]; rw [fl_in hy]) (fun y hy => hle y (by omega))
        rw [ib_f (by simpa using q), g, bd_s, inb_t (show i < 256 by omega) (by omega), gd_t]
        simp only [nm_u, nI_clamp (show i < 2 ^ 31 by omega), nI_1, st_AA, if_true, sA_sA]
        rw [mxB_rk hr hi (fun z => q (hfr.mp z)), fl_u (s.2.1 7) (fun x => nI (gr A m x)) i]) (fun j => by
      show X2_fill_a17_a10_L1_b k (X2_fill_a17_a10_L1 k j) (nI (2 ^ n)) _ = _
      unfold X2_fill_a17_a10_L1_b
      rw [st_AI, ha, if_pos (by rw [nI_ltp (by omega) (by omega)]; omega)]) (k := k) (by omega)
  rw [fl_0, sA_id] at h
  rw [show (0 : Int32) = nI 0 from rfl, h, bd_s]
