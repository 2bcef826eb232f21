/-! PURE 4: roads: what is open past a cut, what is reached, least cuts; their rank is the dual of the turned family's -/
/-- o is closed backwards past the cut c, and holds the targets past it -/
def OpenUp (n : Nat) (ro : Nat → Nat) (T c o : Nat) : Prop := sub (dif T c) o ∧ ∀ i, i < n → c.testBit i = false → ro i &&& o ≠ 0 → o.testBit i = true
/-- the least such set -/
def IsOpen (n : Nat) (ro : Nat → Nat) (T c o : Nat) : Prop := OpenUp n ro T c o ∧ sub o (dif (2 ^ n - 1) c) ∧ ∀ o', OpenUp n ro T c o' → sub o o'
/-- r is closed forwards off the cut c, and holds x off it -/
def ReachUp (n : Nat) (ro : Nat → Nat) (x c r : Nat) : Prop := sub (dif x c) r ∧ ∀ i, i < n → r.testBit i = true → sub (dif (ro i) c) r
def IsReach (n : Nat) (ro : Nat → Nat) (x c r : Nat) : Prop := ReachUp n ro x c r ∧ sub r (dif (2 ^ n - 1) c) ∧ ∀ r', ReachUp n ro x c r' → sub r r'
theorem tb_all {n i : Nat} : (2 ^ n - 1).testBit i = decide (i < n) := Nat.testBit_two_pow_sub_one n i
theorem sub_all {n x : Nat} (h : x < 2 ^ n) : sub x (2 ^ n - 1) := fun i hi => by rw [tb_all]; exact decide_eq_true (tb_lt h hi)
theorem and_0 {a b : Nat} : a &&& b = 0 ↔ ∀ i, a.testBit i = true → b.testBit i = false := by
  constructor
  · intro h i hi
    have : (a &&& b).testBit i = false := by rw [h, Nat.zero_testBit]
    rw [Nat.testBit_and, hi] at this
    exact this
  · intro h
    refine tb_ext fun i => ?_
    rw [Nat.testBit_and, Nat.zero_testBit]
    cases q : a.testBit i with
    | false => rfl
    | true => rw [h i q]; rfl
/-- a cut seen from both ends -/
theorem cut_both {n : Nat} {ro : Nat → Nat} {T x c o r : Nat} (hro : ∀ i, i < n → ro i < 2 ^ n) (hT : T < 2 ^ n) (hx : x < 2 ^ n) (ho : IsOpen n ro T c o) (hr : IsReach n ro x c r) : x &&& o = 0 ↔ r &&& T = 0 := by
  constructor
  · intro h
    have h := and_0.mp h
    have up : ReachUp n ro x c (dif (dif (2 ^ n - 1) c) o) := by
      refine ⟨fun i hi => ?_, fun i hi hr => fun j hj => ?_⟩
      · rw [dif_tb, Bool.and_eq_true] at hi
        rw [dif_tb, dif_tb, tb_all, h i hi.1, decide_eq_true (tb_lt hx hi.1)]
        simp at hi ⊢
        exact hi.2
      · rw [dif_tb, Bool.and_eq_true] at hj
        rw [dif_tb, dif_tb, Bool.and_eq_true, Bool.and_eq_true] at hr
        rw [dif_tb, dif_tb, tb_all, decide_eq_true (tb_lt (hro i hi) hj.1)]
        have hjo : o.testBit j = false := by
          cases q : o.testBit j with
          | false => rfl
          | true =>
            have hci : c.testBit i = false := by
              have := hr.1.2
              cases z : c.testBit i with
              | false => rfl
              | true => rw [z] at this; cases this
            have := ho.1.2 i hi hci (meet_iff.mpr ⟨j, hj.1, q⟩)
            rw [this] at hr
            exact absurd hr.2 (by decide)
        rw [hjo]
        simp at hj ⊢
        exact hj.2
    refine and_0.mpr fun i hi => ?_
    have a := hr.2.2 _ up i hi
    rw [dif_tb, dif_tb, Bool.and_eq_true, Bool.and_eq_true] at a
    cases q : T.testBit i with
    | false => rfl
    | true =>
      have b := ho.1.1 i (by rw [dif_tb, q, a.1.2]; rfl)
      rw [b] at a
      exact absurd a.2 (by decide)
  · intro h
    have h := and_0.mp h
    have up : OpenUp n ro T c (dif (dif (2 ^ n - 1) c) r) := by
      refine ⟨fun i hi => ?_, fun i hi hc hm => ?_⟩
      · rw [dif_tb, Bool.and_eq_true] at hi
        have : r.testBit i = false := by
          cases q : r.testBit i with
          | false => rfl
          | true => have := h i q; rw [hi.1] at this; cases this
        rw [dif_tb, dif_tb, tb_all, this, decide_eq_true (tb_lt hT hi.1)]
        simp at hi ⊢
        exact hi.2
      · obtain ⟨j, h1, h2⟩ := meet_iff.mp hm
        rw [dif_tb, dif_tb, Bool.and_eq_true, Bool.and_eq_true] at h2
        rw [dif_tb, dif_tb, tb_all, hc, decide_eq_true hi]
        cases q : r.testBit i with
        | false => rfl
        | true =>
          have := hr.1.2 i hi q j (by rw [dif_tb, h1, h2.1.2]; rfl)
          rw [this] at h2
          exact absurd h2.2 (by decide)
    refine and_0.mpr fun i hi => ?_
    cases q : o.testBit i with
    | false => rfl
    | true =>
      have a := ho.2.2 _ up i q
      rw [dif_tb, dif_tb, Bool.and_eq_true, Bool.and_eq_true] at a
      have b := hr.1.1 i (by rw [dif_tb, hi, a.1.2]; rfl)
      rw [b] at a
      exact absurd a.2 (by decide)
/-- the turned family: a set for each post, none for a target -/
def tfam (ro : Nat → Nat) (T : Nat) : Nat → Nat := fun v => if T.testBit v = true then 0 else ro v ||| 2 ^ v
def nc (ro : Nat → Nat) (T : Nat) : Nat → Nat → Nat
  | 0, _ => 0
  | k + 1, w => if tfam ro T k &&& w = 0 then nc ro T k w else nc ro T k w ||| 2 ^ k
theorem nc_tb {ro : Nat → Nat} {T w : Nat} : ∀ {k i : Nat}, (nc ro T k w).testBit i = true ↔ i < k ∧ tfam ro T i &&& w ≠ 0
  | 0, i => by unfold nc; rw [Nat.zero_testBit]; simp
  | k + 1, i => by
    unfold nc
    by_cases h : tfam ro T k &&& w = 0
    · rw [if_pos h, nc_tb]
      constructor
      · rintro ⟨a, b⟩; exact ⟨by omega, b⟩
      · rintro ⟨a, b⟩
        refine ⟨?_, b⟩
        rcases Nat.lt_or_ge i k with g | g
        · exact g
        · rw [show i = k by omega] at b; exact absurd h b
    · rw [if_neg h, Nat.testBit_or, Bool.or_eq_true, nc_tb, tb_two, decide_eq_true_eq]
      constructor
      · rintro (⟨a, b⟩ | a)
        · exact ⟨by omega, b⟩
        · subst a; exact ⟨by omega, h⟩
      · rintro ⟨a, b⟩
        rcases Nat.lt_or_ge i k with g | g
        · exact Or.inl ⟨g, b⟩
        · exact Or.inr (by omega)
theorem nc_pc {ro : Nat → Nat} {T w : Nat} : ∀ {k : Nat}, k ≤ 8 → pc (nc ro T k w) = cv (tfam ro T) k w
  | 0, _ => by unfold nc cv; exact pc_0
  | k + 1, hk => by
    unfold nc cv
    have ih := nc_pc (ro := ro) (T := T) (w := w) (k := k) (by omega)
    by_cases h : tfam ro T k &&& w = 0
    · rw [if_pos h, if_pos h]; omega
    · rw [if_neg h, if_neg h, pc_add (by omega), ih]
      cases q : (nc ro T k w).testBit k with
      | false => rfl
      | true => have := (nc_tb.mp q).1; omega
theorem nc_lt {ro : Nat → Nat} {T w k : Nat} : nc ro T k w < 2 ^ k := lt_of_tb fun i hi => by
  cases q : (nc ro T k w).testBit i with
  | false => rfl
  | true => have := (nc_tb.mp q).1; omega
theorem tf_meet {ro : Nat → Nat} {T i w : Nat} : tfam ro T i &&& w ≠ 0 ↔ T.testBit i = false ∧ (w.testBit i = true ∨ ro i &&& w ≠ 0) := by
  unfold tfam
  by_cases h : T.testBit i = true
  · rw [if_pos h, Nat.zero_and, h]; simp
  · rw [if_neg h]
    have h : T.testBit i = false := by cases q : T.testBit i with | false => rfl | true => exact absurd q h
    constructor
    · intro g
      refine ⟨h, ?_⟩
      obtain ⟨j, a, b⟩ := meet_iff.mp g
      rw [Nat.testBit_or, Bool.or_eq_true, tb_two, decide_eq_true_eq] at a
      rcases a with a | a
      · exact Or.inr (meet_iff.mpr ⟨j, a, b⟩)
      · subst a; exact Or.inl b
    · rintro ⟨-, g⟩
      rcases g with g | g
      · exact meet_iff.mpr ⟨i, by rw [Nat.testBit_or, tb_two]; simp, g⟩
      · obtain ⟨j, a, b⟩ := meet_iff.mp g
        exact meet_iff.mpr ⟨j, by rw [Nat.testBit_or, a]; rfl, b⟩
/-- from a set w off x a cut as large as its posts ahead and the targets off it -/
theorem cut_of {n : Nat} {ro : Nat → Nat} {T x w : Nat} (hn : n ≤ 8) (hT : T < 2 ^ n) (hw : w < 2 ^ n) (hxw : x &&& w = 0) : ∃ c, c < 2 ^ n ∧ pc c + pc w = cv (tfam ro T) n w + pc T ∧ ∀ o, IsOpen n ro T c o → x &&& o = 0 := by
  have hN := nc_lt (ro := ro) (T := T) (w := w) (k := n)
  have hW : ∀ i, w.testBit i = true → T.testBit i = false → (nc ro T n w).testBit i = true := fun i h1 h2 => nc_tb.mpr ⟨tb_lt hw h1, tf_meet.mpr ⟨h2, Or.inl h1⟩⟩
  refine ⟨dif (nc ro T n w) w ||| dif T w, Nat.or_lt_two_pow (dif_lt hN) (dif_lt hT), ?_, ?_⟩
  · have e1 : dif (nc ro T n w) w &&& dif T w = 0 := and_0.mpr fun i hi => by
      rw [dif_tb, Bool.and_eq_true] at hi
      rw [dif_tb, (tf_meet.mp (nc_tb.mp hi.1).2).1]; rfl
    have a := pc_or_and (dif (nc ro T n w) w) (dif T w)
    rw [e1, pc_0] at a
    have b := pc_dif (nc ro T n w) w
    have c := pc_dif T w
    have d := pc_dif w T
    have f : nc ro T n w &&& w = dif w T := tb_ext fun i => by
      rw [Nat.testBit_and, dif_tb]
      cases q : w.testBit i with
      | false => simp
      | true =>
        cases p : T.testBit i with
        | false => rw [hW i q p]; rfl
        | true =>
          cases z : (nc ro T n w).testBit i with
          | false => rfl
          | true => have := (tf_meet.mp (nc_tb.mp z).2).1; rw [p] at this; cases this
    have g := nc_pc (ro := ro) (T := T) (w := w) (k := n) hn
    rw [f] at b
    rw [Nat.and_comm] at d
    omega
  · intro o ho
    have up : OpenUp n ro T (dif (nc ro T n w) w ||| dif T w) w := by
      refine ⟨fun i hi => ?_, fun i hi hc hm => ?_⟩
      · rw [dif_tb, Nat.testBit_or, dif_tb, dif_tb, Bool.and_eq_true] at hi
        cases q : w.testBit i with
        | true => rfl
        | false => rw [hi.1, q] at hi; simp at hi
      · cases q : w.testBit i with
        | true => rfl
        | false =>
          rw [Nat.testBit_or, dif_tb, dif_tb, q] at hc
          simp at hc
          have := nc_tb.mpr ⟨hi, tf_meet.mpr ⟨hc.2, Or.inr hm⟩⟩
          rw [this] at hc
          exact absurd hc.1 (by decide)
    have s := ho.2.2 w up
    exact and_0.mpr fun i hi => by
      cases q : o.testBit i with
      | false => rfl
      | true => have := and_0.mp hxw i hi; rw [s i q] at this; cases this
/-- back from a cut to such a set: what is open past it -/
theorem of_cut {n : Nat} {ro : Nat → Nat} {T c o : Nat} (hn : n ≤ 8) (hT : T < 2 ^ n) (hc : c < 2 ^ n) (ho : IsOpen n ro T c o) : cv (tfam ro T) n o + pc T ≤ pc c + pc o := by
  rw [← nc_pc hn]
  have hoT := pc_dif o T
  have e1 : sub (nc ro T n o) (dif o T ||| dif c T) := fun i hi => by
    obtain ⟨h1, h2⟩ := nc_tb.mp hi
    obtain ⟨h3, h4⟩ := tf_meet.mp h2
    rw [Nat.testBit_or, dif_tb, dif_tb, h3]
    cases q : c.testBit i with
    | true => simp
    | false =>
      have : o.testBit i = true := by
        rcases h4 with h4 | h4
        · exact h4
        · exact ho.1.2 i h1 q h4
      rw [this]; rfl
  have a := pc_mono e1
  have b := pc_or_and (dif o T) (dif c T)
  have d := pc_dif c T
  have e2 : sub (dif T o) (c &&& T) := fun i hi => by
    rw [dif_tb, Bool.and_eq_true] at hi
    rw [Nat.testBit_and, hi.1, Bool.and_true]
    cases q : c.testBit i with
    | true => rfl
    | false =>
      have := ho.1.1 i (by rw [dif_tb, hi.1, q]; rfl)
      rw [this] at hi
      exact absurd hi.2 (by decide)
  have f := pc_mono e2
  have g := pc_dif T o
  rw [Nat.and_comm] at g
  omega
theorem gr_all {n : Nat} {ro : Nat → Nat} {T : Nat} (hn : n ≤ 8) (hT : T < 2 ^ n) : gr (tfam ro T) n (2 ^ n - 1) + pc T = pc (2 ^ n - 1) := by
  have p8 := pow8 hn
  have hp := Nat.two_pow_pos n
  have key : ∀ w, w < 2 ^ n → pc (dif w T) ≤ cv (tfam ro T) n w := fun w hw => by
    rw [← nc_pc hn]
    exact pc_mono fun i hi => by
      rw [dif_tb, Bool.and_eq_true] at hi
      refine nc_tb.mpr ⟨tb_lt hw hi.1, tf_meet.mpr ⟨?_, Or.inl hi.1⟩⟩
      cases q : T.testBit i with
      | false => rfl
      | true => rw [q] at hi; exact absurd hi.2 (by decide)
  have hA : sub T (2 ^ n - 1) := sub_all hT
  have a1 := pc_sub_dif hA
  refine Nat.le_antisymm ?_ ?_
  · have h := gr_le (A := tfam ro T) (k := n) (sub_rf (2 ^ n - 1)) (by omega)
    have z : dif (2 ^ n - 1) (2 ^ n - 1) = 0 := tb_ext fun i => by rw [dif_tb, Nat.zero_testBit]; cases (2 ^ n - 1).testBit i <;> rfl
    rw [z, pc_0, ← nc_pc hn] at h
    have m : pc (nc ro T n (2 ^ n - 1)) ≤ pc (dif (2 ^ n - 1) T) := pc_mono fun i hi => by
      obtain ⟨h1, h2⟩ := nc_tb.mp hi
      rw [dif_tb, tb_all, decide_eq_true h1, (tf_meet.mp h2).1]; rfl
    omega
  · obtain ⟨w, hw, e⟩ := gr_at (A := tfam ro T) (k := n) (z := 2 ^ n - 1)
    have k := key w (sub_lt hw (by omega))
    rw [e]
    have m : pc (dif (2 ^ n - 1) T) ≤ pc (dif w T ||| dif (2 ^ n - 1) w) := pc_mono fun i hi => by
      rw [dif_tb, Bool.and_eq_true] at hi
      rw [Nat.testBit_or, dif_tb, dif_tb, hi.1, hi.2]
      cases w.testBit i <;> rfl
    have b := pc_or_and (dif w T) (dif (2 ^ n - 1) w)
    omega
/-- a least cut -/
def IsLeastCut (n : Nat) (op : Nat → Nat) (x c : Nat) : Prop := c < 2 ^ n ∧ x &&& op c = 0 ∧ ∀ d, d < 2 ^ n → x &&& op d = 0 → pc c ≤ pc d
/-- the dual of a rank function -/
def du (n : Nat) (r : Nat → Nat) (x : Nat) : Nat := pc x + r (dif (2 ^ n - 1) x) - r (2 ^ n - 1)
theorem du_ok {n : Nat} {r : Nat → Nat} (h : RK n r) {x : Nat} (hx : x < 2 ^ n) : du n r x + r (2 ^ n - 1) = pc x + r (dif (2 ^ n - 1) x) := by
  unfold du
  have hp := Nat.two_pow_pos n
  have hA : 2 ^ n - 1 < 2 ^ n := by omega
  have key : ∀ d, d < 2 ^ n → dif (2 ^ n - 1) x ||| d < 2 ^ n ∧ r (dif (2 ^ n - 1) x ||| d) ≤ r (dif (2 ^ n - 1) x) + pc d := by
    intro d hd
    refine bit_ind (P := fun w => dif (2 ^ n - 1) x ||| w < 2 ^ n ∧ r (dif (2 ^ n - 1) x ||| w) ≤ r (dif (2 ^ n - 1) x) + pc w) hd ⟨by rw [Nat.or_zero]; exact dif_lt hA, by rw [Nat.or_zero]; omega⟩ ?_
    intro w e he hw _ _ ⟨q1, q2⟩
    rw [← Nat.or_assoc]
    have := (h.2.2.1 (dif (2 ^ n - 1) x ||| w) e q1 he).2
    have := pc_add (Nat.lt_of_lt_of_le he h.1) hw
    exact ⟨or_two_lt q1 he, by omega⟩
  have q := (key x hx).2
  have e : dif (2 ^ n - 1) x ||| x = 2 ^ n - 1 := tb_ext fun i => by
    rw [Nat.testBit_or, dif_tb]
    cases p : x.testBit i with
    | true => rw [tb_all, decide_eq_true (tb_lt hx p)]; rfl
    | false => simp
  rw [e] at q
  omega
theorem dif_or2 (a b c : Nat) : dif a (b ||| c) = dif (dif a b) c := tb_ext fun i => by
  simp only [dif_tb, Nat.testBit_or]
  cases a.testBit i <;> cases b.testBit i <;> cases c.testBit i <;> rfl
theorem du_rk {n : Nat} {r : Nat → Nat} (h : RK n r) : RK n (du n r) := by
  have hp := Nat.two_pow_pos n
  have hA : 2 ^ n - 1 < 2 ^ n := by omega
  have st : ∀ x e, x < 2 ^ n → e < n → x.testBit e = false → dif (2 ^ n - 1) (x ||| 2 ^ e) ||| 2 ^ e = dif (2 ^ n - 1) x := fun x e hx he hxe => tb_ext fun i => by
    rw [Nat.testBit_or, dif_tb, dif_tb, Nat.testBit_or, tb_two, tb_all]
    by_cases q : e = i
    · subst q; simp [he, hxe]
    · simp [q]
  refine ⟨h.1, ?_, fun x e hx he => ?_, fun x e f hx he hf h1 h2 => ?_⟩
  · unfold du
    have z : dif (2 ^ n - 1) 0 = 2 ^ n - 1 := tb_ext fun i => by rw [dif_tb, Nat.zero_testBit]; simp
    rw [z, pc_0]; omega
  · by_cases xe : x.testBit e = true
    · rw [or_in xe]; omega
    · have xe : x.testBit e = false := by cases q : x.testBit e with | false => rfl | true => exact absurd q xe
      have a := du_ok h hx
      have b := du_ok h (or_two_lt hx he)
      have c := pc_add (Nat.lt_of_lt_of_le he h.1) xe
      have d := h.2.2.1 (dif (2 ^ n - 1) (x ||| 2 ^ e)) e (dif_lt hA) he
      rw [st x e hx he xe] at d
      omega
  · by_cases xe : x.testBit e = true
    · rw [or_in xe]; exact h2
    by_cases xf : x.testBit f = true
    · have : (x ||| 2 ^ e).testBit f = true := by rw [Nat.testBit_or, xf]; rfl
      rw [or_in this]; exact h1
    have xe : x.testBit e = false := by cases q : x.testBit e with | false => rfl | true => exact absurd q xe
    have xf : x.testBit f = false := by cases q : x.testBit f with | false => rfl | true => exact absurd q xf
    by_cases ef : e = f
    · subst ef
      rw [or_in (by rw [Nat.testBit_or, tb_two]; simp)]
      exact h1
    have xef : (x ||| 2 ^ e).testBit f = false := by rw [Nat.testBit_or, xf, tb_two]; simp [ef]
    have hxe := or_two_lt hx he
    have a := du_ok h hx
    have b := du_ok h hxe
    have b2 := du_ok h (or_two_lt hx hf)
    have d := du_ok h (or_two_lt hxe hf)
    have p1 := pc_add (Nat.lt_of_lt_of_le he h.1) xe
    have p2 := pc_add (Nat.lt_of_lt_of_le hf h.1) xf
    have p3 := pc_add (Nat.lt_of_lt_of_le hf h.1) xef
    -- let y be what is left behind both: r grows by each of e, f, so by both
    have s1 := st (x ||| 2 ^ e) f hxe hf xef
    have s2 := st x e hx he xe
    have s3 := st x f hx hf xf
    have hy : dif (2 ^ n - 1) (x ||| 2 ^ e ||| 2 ^ f) < 2 ^ n := dif_lt hA
    have s4 : dif (2 ^ n - 1) (x ||| 2 ^ e ||| 2 ^ f) ||| 2 ^ e = dif (2 ^ n - 1) (x ||| 2 ^ f) := tb_ext fun i => by
      rw [Nat.testBit_or, dif_tb, dif_tb, Nat.testBit_or, Nat.testBit_or, Nat.testBit_or, tb_two, tb_two, tb_all]
      by_cases q : e = i
      · subst q; simp [he, xe, Ne.symm ef]
      · simp [q]
    have u := h.2.2.1 _ f hy hf
    rw [s1] at u
    by_cases g : r (dif (2 ^ n - 1) (x ||| 2 ^ e)) = r (dif (2 ^ n - 1) (x ||| 2 ^ e ||| 2 ^ f))
    · exfalso
      have q := h.dim (x := dif (2 ^ n - 1) (x ||| 2 ^ e ||| 2 ^ f)) (e := f) (f := e) hy hf he (by rw [s1]; exact g)
      rw [s4, s3] at q
      omega
    · omega
/-- the roads' rank: a least cut is as large as the dual of the turned family's rank -/
theorem kappa {n : Nat} {ro : Nat → Nat} {T x c : Nat} {op : Nat → Nat} (hn : n ≤ 8) (hT : T < 2 ^ n) (hx : x < 2 ^ n) (hop : ∀ c, c < 2 ^ n → IsOpen n ro T c (op c)) (hc : IsLeastCut n op x c) : pc c = du n (gr (tfam ro T) n) x := by
  have p8 := pow8 hn
  have hp := Nat.two_pow_pos n
  have h0 := du_ok (gr_rk (tfam ro T) n hn) hx
  have h1 := gr_all (ro := ro) hn hT
  have hd : dif (2 ^ n - 1) x < 2 ^ n := dif_lt (by omega)
  have hxx : pc (dif (2 ^ n - 1) x) + pc x = pc (2 ^ n - 1) := pc_sub_dif (sub_all hx)
  refine Nat.le_antisymm ?_ ?_
  · obtain ⟨w, hw, e⟩ := gr_at (A := tfam ro T) (k := n) (z := dif (2 ^ n - 1) x)
    have hxw : x &&& w = 0 := and_0.mpr fun i hi => by
      cases q : w.testBit i with
      | false => rfl
      | true => have := hw i q; rw [dif_tb, hi] at this; simp at this
    obtain ⟨d, d1, d2, d3⟩ := cut_of (ro := ro) hn hT (sub_lt hw hd) hxw
    have := hc.2.2 d d1 (d3 _ (hop d d1))
    have := pc_sub_dif hw
    omega
  · have a := of_cut hn hT hc.1 (hop c hc.1)
    have s : sub (op c) (dif (2 ^ n - 1) x) := fun i hi => by
      have b := (hop c hc.1).2.1 i hi
      rw [dif_tb, Bool.and_eq_true] at b
      rw [dif_tb, b.1, Bool.true_and]
      cases q : x.testBit i with
      | false => rfl
      | true => have := and_0.mp hc.2.1 i q; rw [hi] at this; cases this
    have b := gr_le (A := tfam ro T) (k := n) s (by omega)
    have d := pc_sub_dif s
    omega
