/-! PURE 2: how many, parts, induction over bits; rank functions -/
def b1 (b : Bool) : Nat := if b = true then 1 else 0
def pc (x : Nat) : Nat := b1 (x.testBit 0) + b1 (x.testBit 1) + b1 (x.testBit 2) + b1 (x.testBit 3) + b1 (x.testBit 4) + b1 (x.testBit 5) + b1 (x.testBit 6) + b1 (x.testBit 7)
def sub (a b : Nat) : Prop := ∀ i, a.testBit i = true → b.testBit i = true
theorem sub_rf (a : Nat) : sub a a := fun _ h => h
theorem sub_tr {a b c : Nat} (h : sub a b) (g : sub b c) : sub a c := fun i q => g i (h i q)
theorem sub_0 (a : Nat) : sub 0 a := fun i h => by simp at h
theorem sub_or_l (a b : Nat) : sub a (a ||| b) := fun i h => by rw [Nat.testBit_or, h]; rfl
theorem sub_or_r (a b : Nat) : sub b (a ||| b) := fun i h => by rw [Nat.testBit_or, h, Bool.or_true]
theorem sub_or {a b c : Nat} (h : sub a c) (g : sub b c) : sub (a ||| b) c := fun i q => by
  rw [Nat.testBit_or, Bool.or_eq_true] at q
  exact q.elim (h i) (g i)
theorem sub_and_l (a b : Nat) : sub (a &&& b) a := fun i h => by rw [Nat.testBit_and, Bool.and_eq_true] at h; exact h.1
theorem sub_and_r (a b : Nat) : sub (a &&& b) b := fun i h => by rw [Nat.testBit_and, Bool.and_eq_true] at h; exact h.2
theorem sub_dif (a b : Nat) : sub (dif a b) a := fun i h => by rw [dif_tb, Bool.and_eq_true] at h; exact h.1
theorem tb_ext {a b : Nat} (h : ∀ i, a.testBit i = b.testBit i) : a = b := Nat.eq_of_testBit_eq h
theorem tb_big {a n i : Nat} (h : a < 2 ^ n) (hi : n ≤ i) : a.testBit i = false := Nat.testBit_lt_two_pow (Nat.lt_of_lt_of_le h (Nat.pow_le_pow_right (by omega) hi))
theorem tb_lt {a n i : Nat} (h : a < 2 ^ n) (hi : a.testBit i = true) : i < n := by
  rcases Nat.lt_or_ge i n with g | g
  · exact g
  · rw [tb_big h g] at hi; cases hi
theorem tb_two (e i : Nat) : (2 ^ e).testBit i = decide (e = i) := Nat.testBit_two_pow
theorem lt_of_tb {a n : Nat} (h : ∀ i, n ≤ i → a.testBit i = false) : a < 2 ^ n := Nat.lt_pow_two_of_testBit a h
theorem sub_lt {a b n : Nat} (h : sub a b) (hb : b < 2 ^ n) : a < 2 ^ n := lt_of_tb fun i hi => by
  cases q : a.testBit i with
  | false => rfl
  | true => have := tb_lt hb (h i q); omega
theorem sub_anti {a b : Nat} (h : sub a b) (g : sub b a) : a = b := tb_ext fun i => by
  cases q : a.testBit i with
  | true => exact (h i q).symm
  | false =>
    cases r : b.testBit i with
    | true => rw [g i r] at q; cases q
    | false => rfl
theorem sub_and {a b : Nat} (h : sub a b) : a &&& b = a := tb_ext fun i => by
  rw [Nat.testBit_and]
  cases q : a.testBit i with
  | true => rw [h i q]; rfl
  | false => rfl
theorem sub_iff {a b : Nat} : sub a b ↔ a &&& b = a := ⟨sub_and, fun h => by rw [← h]; exact sub_and_r a b⟩
theorem sub_le {a b : Nat} (h : sub a b) : a ≤ b := by rw [← sub_and h]; exact Nat.and_le_right
theorem sub_two {a e : Nat} (h : a.testBit e = true) : sub (2 ^ e) a := fun i q => by
  rw [tb_two, decide_eq_true_eq] at q
  rw [← q]; exact h
theorem or_two_lt {a n e : Nat} (h : a < 2 ^ n) (he : e < n) : a ||| 2 ^ e < 2 ^ n := Nat.or_lt_two_pow h (Nat.pow_lt_pow_right (by omega) he)
theorem or_in {a e : Nat} (h : a.testBit e = true) : a ||| 2 ^ e = a := tb_ext fun i => by
  rw [Nat.testBit_or, tb_two]
  by_cases q : e = i
  · subst q; rw [h]; rfl
  · simp [q]
theorem dif_lt {a b n : Nat} (h : a < 2 ^ n) : dif a b < 2 ^ n := sub_lt (sub_dif a b) h
theorem dif_or {a e : Nat} (h : a.testBit e = true) : dif a (2 ^ e) ||| 2 ^ e = a := tb_ext fun i => by
  rw [Nat.testBit_or, dif_tb, tb_two]
  by_cases q : e = i
  · subst q; rw [h]; simp
  · simp [q]
theorem or_dif {a e : Nat} (h : a.testBit e = false) : dif (a ||| 2 ^ e) (2 ^ e) = a := tb_ext fun i => by
  rw [dif_tb, Nat.testBit_or, tb_two]
  by_cases q : e = i
  · subst q; rw [h]; simp
  · simp [q]
theorem dif_out {a e : Nat} (h : a.testBit e = false) : dif a (2 ^ e) = a := tb_ext fun i => by
  rw [dif_tb, tb_two]
  by_cases q : e = i
  · subst q; rw [h]; simp
  · simp [q]
theorem b1_or_and (a b : Bool) : b1 (a || b) + b1 (a && b) = b1 a + b1 b := by cases a <;> cases b <;> rfl
theorem b1_dif (a b : Bool) : b1 (a && !b) + b1 (a && b) = b1 a := by cases a <;> cases b <;> rfl
theorem b1_le {a b : Bool} (h : a = true → b = true) : b1 a ≤ b1 b := by
  cases a with
  | false => exact Nat.zero_le _
  | true => rw [h rfl]; exact Nat.le_refl _
theorem pc_or_and (a b : Nat) : pc (a ||| b) + pc (a &&& b) = pc a + pc b := by
  unfold pc
  simp only [Nat.testBit_or, Nat.testBit_and]
  have h := fun i => b1_or_and (a.testBit i) (b.testBit i)
  have := h 0; have := h 1; have := h 2; have := h 3; have := h 4; have := h 5; have := h 6; have := h 7
  omega
theorem pc_dif (a b : Nat) : pc (dif a b) + pc (a &&& b) = pc a := by
  unfold pc
  simp only [dif_tb, Nat.testBit_and]
  have h := fun i => b1_dif (a.testBit i) (b.testBit i)
  have := h 0; have := h 1; have := h 2; have := h 3; have := h 4; have := h 5; have := h 6; have := h 7
  omega
theorem pc_mono {a b : Nat} (h : sub a b) : pc a ≤ pc b := by
  unfold pc
  have q := fun i => b1_le (h i)
  have := q 0; have := q 1; have := q 2; have := q 3; have := q 4; have := q 5; have := q 6; have := q 7
  omega
theorem pc_0 : pc 0 = 0 := by decide
theorem pc_two : ∀ e, e < 8 → pc (2 ^ e) = 1 := by decide
theorem pc_le8 (x : Nat) : pc x ≤ 8 := by
  unfold pc
  have q : ∀ i, b1 (x.testBit i) ≤ 1 := fun i => by cases x.testBit i <;> decide
  have := q 0; have := q 1; have := q 2; have := q 3; have := q 4; have := q 5; have := q 6; have := q 7
  omega
theorem and_two {a e : Nat} (h : a.testBit e = false) : a &&& 2 ^ e = 0 := tb_ext fun i => by
  rw [Nat.testBit_and, tb_two, Nat.zero_testBit]
  by_cases q : e = i
  · subst q; rw [h]; rfl
  · simp [q]
theorem pc_add {a e : Nat} (he : e < 8) (h : a.testBit e = false) : pc (a ||| 2 ^ e) = pc a + 1 := by
  have q := pc_or_and a (2 ^ e)
  rw [and_two h, pc_0, pc_two e he] at q
  omega
theorem pc_rem {a e : Nat} (he : e < 8) (h : a.testBit e = true) : pc (dif a (2 ^ e)) + 1 = pc a := by
  have q := pc_dif a (2 ^ e)
  have z : a &&& 2 ^ e = 2 ^ e := by rw [Nat.and_comm]; exact sub_and (sub_two h)
  rw [z, pc_two e he] at q
  omega
theorem pc_eq0 : ∀ a, a < 256 → pc a = 0 → a = 0 := by decide +kernel
theorem sub_eq {a b : Nat} (hb : b < 256) (h : sub a b) (hp : pc b ≤ pc a) : a = b := by
  have q := pc_dif b a
  rw [Nat.and_comm, sub_and h] at q
  have z := pc_eq0 (dif b a) (dif_lt (n := 8) hb) (by omega)
  refine sub_anti h fun i hi => ?_
  have w : (dif b a).testBit i = false := by rw [z, Nat.zero_testBit]
  rw [dif_tb, hi] at w
  cases r : a.testBit i with
  | true => rfl
  | false => rw [r] at w; cases w
theorem pow8 {n : Nat} (hn : n ≤ 8) : 2 ^ n ≤ 256 := Nat.pow_le_pow_right (n := 2) (by omega) hn
theorem mod_succ (d j : Nat) : d % 2 ^ (j + 1) = if d.testBit j = true then d % 2 ^ j ||| 2 ^ j else d % 2 ^ j := tb_ext fun i => by
  by_cases h : d.testBit j = true
  · rw [if_pos h, Nat.testBit_or, Nat.testBit_mod_two_pow, Nat.testBit_mod_two_pow, tb_two]
    by_cases q : j = i
    · subst q; simp [h]
    · by_cases g : i < j
      · simp [q, g, Nat.lt_succ_of_lt g]
      · simp [q, g, show ¬ i < j + 1 by omega]
  · rw [if_neg h, Nat.testBit_mod_two_pow, Nat.testBit_mod_two_pow]
    by_cases q : j = i
    · subst q; simp [h]
    · by_cases g : i < j
      · simp [g, Nat.lt_succ_of_lt g]
      · simp [g, show ¬ i < j + 1 by omega]
/-- a set, post by post -/
theorem bit_ind {n : Nat} {P : Nat → Prop} {d : Nat} (hd : d < 2 ^ n) (h0 : P 0) (hs : ∀ w e, e < n → w.testBit e = false → sub w d → d.testBit e = true → P w → P (w ||| 2 ^ e)) : P d := by
  have key : ∀ j, j ≤ n → P (d % 2 ^ j) := by
    intro j
    induction j with
    | zero => intro _; rw [Nat.pow_zero, Nat.mod_one]; exact h0
    | succ j ih =>
      intro hj
      rw [mod_succ]
      by_cases h : d.testBit j = true
      · rw [if_pos h]
        refine hs _ j hj ?_ ?_ h (ih (by omega))
        · rw [Nat.testBit_mod_two_pow]; simp
        · intro i q
          rw [Nat.testBit_mod_two_pow, Bool.and_eq_true] at q
          exact q.2
      · rw [if_neg h]; exact ih (by omega)
  have := key n (Nat.le_refl n)
  rw [Nat.mod_eq_of_lt hd] at this
  exact this
/-- a rank function over the sets of n posts -/
def RK (n : Nat) (r : Nat → Nat) : Prop := n ≤ 8 ∧ r 0 = 0 ∧ (∀ x e, x < 2 ^ n → e < n → r x ≤ r (x ||| 2 ^ e) ∧ r (x ||| 2 ^ e) ≤ r x + 1) ∧ (∀ x e f, x < 2 ^ n → e < n → f < n → r (x ||| 2 ^ e) = r x → r (x ||| 2 ^ f) = r x → r (x ||| 2 ^ e ||| 2 ^ f) = r x)
section RANK
variable {n : Nat} {r : Nat → Nat}
theorem RK.mono (h : RK n r) {x y : Nat} (hy : y < 2 ^ n) (hs : sub x y) : r x ≤ r y := by
  have hx := sub_lt hs hy
  have key : ∀ d, d < 2 ^ n → x ||| d < 2 ^ n ∧ r x ≤ r (x ||| d) := by
    intro d hd
    refine bit_ind (P := fun w => x ||| w < 2 ^ n ∧ r x ≤ r (x ||| w)) hd ⟨by rw [Nat.or_zero]; exact hx, by rw [Nat.or_zero]; exact Nat.le_refl _⟩ ?_
    intro w e he _ _ _ ⟨q1, q2⟩
    rw [← Nat.or_assoc]
    exact ⟨or_two_lt q1 he, Nat.le_trans q2 (h.2.2.1 _ e q1 he).1⟩
  have := (key y hy).2
  rw [show x ||| y = y from tb_ext fun i => by
    rw [Nat.testBit_or]
    cases q : x.testBit i with
    | true => rw [hs i q]; rfl
    | false => rfl] at this
  exact this
theorem RK.le_pc (h : RK n r) {x : Nat} (hx : x < 2 ^ n) : r x ≤ pc x := by
  refine (bit_ind (P := fun w => w < 2 ^ n ∧ r w ≤ pc w) hx ⟨Nat.two_pow_pos n, by rw [h.2.1]; exact Nat.zero_le _⟩ ?_).2
  intro w e he hw _ _ ⟨q1, q2⟩
  have := (h.2.2.1 w e q1 he).2
  have := pc_add (Nat.lt_of_lt_of_le he h.1) hw
  exact ⟨or_two_lt q1 he, by omega⟩
/-- what adds nothing to a set adds nothing to a greater one -/
theorem RK.dim (h : RK n r) {x e f : Nat} (hx : x < 2 ^ n) (he : e < n) (hf : f < n) (q : r (x ||| 2 ^ e) = r x) : r (x ||| 2 ^ f ||| 2 ^ e) = r (x ||| 2 ^ f) := by
  have h1 := h.2.2.1 x f hx hf
  have h2 := h.2.2.1 (x ||| 2 ^ f) e (or_two_lt hx hf) he
  have h3 := h.2.2.1 (x ||| 2 ^ e) f (or_two_lt hx he) hf
  have c : x ||| 2 ^ f ||| 2 ^ e = x ||| 2 ^ e ||| 2 ^ f := by rw [Nat.or_assoc, Nat.or_comm (2 ^ f), ← Nat.or_assoc]
  by_cases g : r (x ||| 2 ^ f) = r x
  · have := h.2.2.2 x e f hx he hf q g
    rw [c, this, g]
  · rw [c] at h2 ⊢
    omega
theorem RK.dimS (h : RK n r) {x y e : Nat} (hy : y < 2 ^ n) (hs : sub x y) (he : e < n) (q : r (x ||| 2 ^ e) = r x) : r (y ||| 2 ^ e) = r y := by
  have hx := sub_lt hs hy
  have key : ∀ d, d < 2 ^ n → x ||| d < 2 ^ n ∧ r (x ||| d ||| 2 ^ e) = r (x ||| d) := by
    intro d hd
    refine bit_ind (P := fun w => x ||| w < 2 ^ n ∧ r (x ||| w ||| 2 ^ e) = r (x ||| w)) hd ⟨by rw [Nat.or_zero]; exact hx, by rw [Nat.or_zero]; exact q⟩ ?_
    intro w f hf _ _ _ ⟨q1, q2⟩
    rw [← Nat.or_assoc]
    exact ⟨or_two_lt q1 hf, h.dim q1 he hf q2⟩
  have := (key y hy).2
  rw [show x ||| y = y from tb_ext fun i => by
    rw [Nat.testBit_or]
    cases q : x.testBit i with
    | true => rw [hs i q]; rfl
    | false => rfl] at this
  exact this
/-- closure: posts that add nothing one by one add nothing together -/
theorem RK.clos (h : RK n r) {y c : Nat} (hy : y < 2 ^ n) (hc : c < 2 ^ n) (q : ∀ f, f < n → c.testBit f = true → r (y ||| 2 ^ f) = r y) : r (y ||| c) = r y := by
  refine (bit_ind (P := fun w => y ||| w < 2 ^ n ∧ r (y ||| w) = r y) hc ⟨by rw [Nat.or_zero]; exact hy, by rw [Nat.or_zero]⟩ ?_).2
  intro w e he _ _ hce ⟨q1, q2⟩
  rw [← Nat.or_assoc]
  refine ⟨or_two_lt q1 he, ?_⟩
  rw [h.dimS q1 (sub_or_l y w) he (q e he hce), q2]
/-- a free set within z grows to one of z's rank -/
theorem RK.ext (h : RK n r) {x z : Nat} (hz : z < 2 ^ n) (hs : sub x z) (hf : r x = pc x) : ∃ y, sub x y ∧ sub y z ∧ r y = pc y ∧ pc y = r z := by
  have hx := sub_lt hs hz
  have key := bit_ind (P := fun w => ∃ y, sub x y ∧ sub y (x ||| w) ∧ r y = pc y ∧ pc y = r (x ||| w)) hz ⟨x, sub_rf x, sub_or_l _ _, hf, by rw [Nat.or_zero]; exact hf.symm⟩ (by
    intro w e he _ hw _ ⟨y, y1, y2, y3, y4⟩
    have hxw : x ||| w < 2 ^ n := Nat.or_lt_two_pow hx (sub_lt hw hz)
    have hy := sub_lt y2 hxw
    rw [← Nat.or_assoc]
    have u := h.2.2.1 (x ||| w) e hxw he
    by_cases g : r (x ||| w ||| 2 ^ e) = r (x ||| w)
    · exact ⟨y, y1, sub_tr y2 (sub_or_l _ _), y3, by rw [g]; exact y4⟩
    · have v := h.2.2.1 y e hy he
      have hne : y.testBit e = false := by
        cases q : y.testBit e with
        | false => rfl
        | true => exact absurd (by rw [or_in (y2 e q)]) g
      refine ⟨y ||| 2 ^ e, sub_tr y1 (sub_or_l _ _), sub_or (sub_tr y2 (sub_or_l _ _)) (sub_or_r _ _), ?_, ?_⟩
      · have p1 := pc_add (Nat.lt_of_lt_of_le he h.1) hne
        by_cases k : r (y ||| 2 ^ e) = r y
        · exfalso
          have hc := h.clos (c := x ||| w ||| 2 ^ e) hy (or_two_lt hxw he) (fun f hf hb => by
            rw [Nat.testBit_or, Bool.or_eq_true] at hb
            rcases hb with hb | hb
            · have a1 := (h.2.2.1 y f hy hf).1
              have a2 := h.mono (x := y ||| 2 ^ f) hxw (sub_or y2 (sub_two hb))
              omega
            · rw [tb_two, decide_eq_true_eq] at hb
              rw [← hb]; exact k)
          have m := h.mono (x := x ||| w ||| 2 ^ e) (y := y ||| (x ||| w ||| 2 ^ e)) (Nat.or_lt_two_pow hy (or_two_lt hxw he)) (sub_or_r _ _)
          omega
        · omega
      · have p1 := pc_add (Nat.lt_of_lt_of_le he h.1) hne
        omega)
  obtain ⟨y, y1, y2, y3, y4⟩ := key
  have e : x ||| z = z := tb_ext fun i => by
    rw [Nat.testBit_or]
    cases q : x.testBit i with
    | true => rw [hs i q]; rfl
    | false => rfl
  rw [e] at y2 y4
  exact ⟨y, y1, y2, y3, y4⟩
/-- a part of a free set is free -/
theorem RK.part (h : RK n r) {x y : Nat} (hx : x < 2 ^ n) (hs : sub y x) (hf : r x = pc x) : r y = pc y := by
  have hy := sub_lt hs hx
  have key : ∀ d, d < 2 ^ n → y ||| d < 2 ^ n ∧ r (y ||| d) ≤ r y + pc d := by
    intro d hd
    refine bit_ind (P := fun w => y ||| w < 2 ^ n ∧ r (y ||| w) ≤ r y + pc w) hd ⟨by rw [Nat.or_zero]; exact hy, by rw [Nat.or_zero]; omega⟩ ?_
    intro w e he hw _ _ ⟨q1, q2⟩
    rw [← Nat.or_assoc]
    have := (h.2.2.1 (y ||| w) e q1 he).2
    have := pc_add (Nat.lt_of_lt_of_le he h.1) hw
    exact ⟨or_two_lt q1 he, by omega⟩
  have q := (key (dif x y) (dif_lt hx)).2
  have e : y ||| dif x y = x := tb_ext fun i => by
    rw [Nat.testBit_or, dif_tb]
    cases q : y.testBit i with
    | true => rw [hs i q]; rfl
    | false => simp
  rw [e] at q
  have p := pc_dif x y
  rw [Nat.and_comm, sub_and hs] at p
  have := h.le_pc hy
  omega
/-- a set that isn't free has a post whose loss loses no rank -/
theorem RK.less (h : RK n r) {x : Nat} (hx : x < 2 ^ n) (hf : r x < pc x) : ∃ i, i < n ∧ x.testBit i = true ∧ r (dif x (2 ^ i)) = r x := by
  obtain ⟨y, -, y2, y3, y4⟩ := h.ext hx (sub_0 x) (by rw [h.2.1, pc_0])
  have hne : ∃ i, x.testBit i = true ∧ y.testBit i = false := by
    rcases Classical.em (∃ i, x.testBit i = true ∧ y.testBit i = false) with g | g
    · exact g
    · exfalso
      have : sub x y := fun i hi => by
        cases q : y.testBit i with
        | true => rfl
        | false => exact absurd ⟨i, hi, q⟩ g
      rw [sub_anti y2 this] at y4
      omega
  obtain ⟨i, hi, hyi⟩ := hne
  refine ⟨i, tb_lt hx hi, hi, ?_⟩
  have s1 : sub y (dif x (2 ^ i)) := fun j hj => by
    rw [dif_tb, y2 j hj, tb_two]
    by_cases q : i = j
    · subst q; rw [hj] at hyi; cases hyi
    · simp [q]
  have a1 := h.mono (dif_lt hx) s1
  have a2 := h.mono hx (sub_dif x (2 ^ i))
  omega
end RANK
