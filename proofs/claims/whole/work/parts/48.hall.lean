/-! PURE 3: families: how many sets meet some posts; Hall's condition, the table of matched sets, the rank of a family -/
def cv (A : Nat → Nat) : Nat → Nat → Nat
  | 0, _ => 0
  | k + 1, w => cv A k w + (if A k &&& w = 0 then 0 else 1)
theorem meet_iff {a w : Nat} : a &&& w ≠ 0 ↔ ∃ i, a.testBit i = true ∧ w.testBit i = true := by
  constructor
  · intro h
    rcases Classical.em (∃ i, a.testBit i = true ∧ w.testBit i = true) with g | g
    · exact g
    · refine absurd (tb_ext fun i => ?_) h
      rw [Nat.testBit_and, Nat.zero_testBit]
      cases q : a.testBit i with
      | false => rfl
      | true =>
        cases r : w.testBit i with
        | false => rfl
        | true => exact absurd ⟨i, q, r⟩ g
  · rintro ⟨i, h1, h2⟩ h
    have : (a &&& w).testBit i = true := by rw [Nat.testBit_and, h1, h2]; rfl
    rw [h, Nat.zero_testBit] at this
    cases this
theorem cv_mono {A : Nat → Nat} {k v w : Nat} (h : sub v w) : cv A k v ≤ cv A k w := by
  induction k with
  | zero => exact Nat.le_refl _
  | succ k ih =>
    unfold cv
    by_cases g : A k &&& v = 0
    · rw [if_pos g]; omega
    · have : A k &&& w ≠ 0 := by
        obtain ⟨i, h1, h2⟩ := meet_iff.mp g
        exact meet_iff.mpr ⟨i, h1, h i h2⟩
      rw [if_neg g, if_neg this]; omega
theorem cv_sub {A : Nat → Nat} {k v w : Nat} : cv A k (v ||| w) + cv A k (v &&& w) ≤ cv A k v + cv A k w := by
  induction k with
  | zero => exact Nat.le_refl _
  | succ k ih =>
    unfold cv
    have h1 : A k &&& (v ||| w) ≠ 0 → A k &&& v ≠ 0 ∨ A k &&& w ≠ 0 := by
      intro h
      obtain ⟨i, a, b⟩ := meet_iff.mp h
      rw [Nat.testBit_or, Bool.or_eq_true] at b
      exact b.elim (fun b => Or.inl (meet_iff.mpr ⟨i, a, b⟩)) (fun b => Or.inr (meet_iff.mpr ⟨i, a, b⟩))
    have h2 : A k &&& (v &&& w) ≠ 0 → A k &&& v ≠ 0 ∧ A k &&& w ≠ 0 := by
      intro h
      obtain ⟨i, a, b⟩ := meet_iff.mp h
      rw [Nat.testBit_and, Bool.and_eq_true] at b
      exact ⟨meet_iff.mpr ⟨i, a, b.1⟩, meet_iff.mpr ⟨i, a, b.2⟩⟩
    by_cases a : A k &&& v = 0 <;> by_cases b : A k &&& w = 0 <;> by_cases c : A k &&& (v ||| w) = 0 <;> by_cases d : A k &&& (v &&& w) = 0 <;> simp only [a, b, c, d, if_true, if_false] <;> first | omega | (exfalso; first | exact (h1 c).elim (fun z => z a) (fun z => z b) | exact (h2 d).1 a | exact (h2 d).2 b)
theorem cv_0 {A : Nat → Nat} {k : Nat} : cv A k 0 = 0 := by
  induction k with
  | zero => rfl
  | succ k ih => unfold cv; rw [ih, Nat.and_zero, if_pos rfl]
theorem cv_le {A : Nat → Nat} {k w : Nat} : cv A k w ≤ k := by
  induction k with
  | zero => exact Nat.le_refl _
  | succ k ih => unfold cv; split <;> omega
theorem cv_congr {A B : Nat → Nat} {k w : Nat} (h : ∀ j, j < k → A j = B j) : cv A k w = cv B k w := by
  induction k with
  | zero => rfl
  | succ k ih => unfold cv; rw [ih fun j hj => h j (by omega), h k (by omega)]
def Hall (A : Nat → Nat) (k x : Nat) : Prop := ∀ w, sub w x → pc w ≤ cv A k w
/-- the table of matched sets, set by set of the family -/
def mt (A : Nat → Nat) : Nat → Nat → Bool
  | 0, x => x == 0
  | k + 1, x => mt A k x || (List.range 8).any fun e => (A k).testBit e && x.testBit e && mt A k (dif x (2 ^ e))
theorem mt_succ {A : Nat → Nat} {k x : Nat} : mt A (k + 1) x = true ↔ mt A k x = true ∨ ∃ e, e < 8 ∧ (A k).testBit e = true ∧ x.testBit e = true ∧ mt A k (dif x (2 ^ e)) = true := by
  rw [show mt A (k + 1) x = (mt A k x || (List.range 8).any fun e => (A k).testBit e && x.testBit e && mt A k (dif x (2 ^ e))) from rfl, Bool.or_eq_true, List.any_eq_true]
  constructor
  · rintro (h | ⟨e, h1, h2⟩)
    · exact Or.inl h
    · rw [Bool.and_eq_true, Bool.and_eq_true] at h2
      exact Or.inr ⟨e, List.mem_range.mp h1, h2.1.1, h2.1.2, h2.2⟩
  · rintro (h | ⟨e, h1, h2, h3, h4⟩)
    · exact Or.inl h
    · exact Or.inr ⟨e, List.mem_range.mpr h1, by rw [h2, h3, h4]; rfl⟩
theorem mt_congr {A B : Nat → Nat} : ∀ {k x : Nat}, (∀ j, j < k → A j = B j) → mt A k x = mt B k x
  | 0, x, _ => rfl
  | k + 1, x, h => by
    have ih : ∀ x, mt A k x = mt B k x := fun x => mt_congr fun j hj => h j (by omega)
    unfold mt
    rw [ih x, h k (by omega)]
    congr 2
    funext e
    rw [ih]
theorem mt_hall {A : Nat → Nat} : ∀ {k x : Nat}, mt A k x = true → Hall A k x
  | 0, x, h => by
    intro w hw
    have hx : x = 0 := by unfold mt at h; exact beq_iff_eq.mp h
    rw [hx] at hw
    rw [sub_anti hw (sub_0 w), pc_0]
    exact Nat.zero_le _
  | k + 1, x, h => by
    intro w hw
    unfold cv
    rcases mt_succ.mp h with g | ⟨e, he, h1, h2, h3⟩
    · have := mt_hall g w hw
      omega
    · have ih := mt_hall h3
      by_cases q : w.testBit e = true
      · have m : A k &&& w ≠ 0 := meet_iff.mpr ⟨e, h1, q⟩
        rw [if_neg m]
        have s : sub (dif w (2 ^ e)) (dif x (2 ^ e)) := fun i hi => by
          rw [dif_tb, Bool.and_eq_true] at hi ⊢
          exact ⟨hw i hi.1, hi.2⟩
        have a1 := ih _ s
        have a2 := pc_rem he q
        have a3 := cv_mono (A := A) (k := k) (sub_dif w (2 ^ e))
        omega
      · have s : sub w (dif x (2 ^ e)) := fun i hi => by
          rw [dif_tb, Bool.and_eq_true, tb_two]
          refine ⟨hw i hi, ?_⟩
          by_cases z : e = i
          · subst z; exact absurd hi q
          · simp [z]
        have := ih _ s
        omega
/-- a least one by a measure -/
theorem least_by {P : Nat → Prop} (m : Nat → Nat) (h : ∃ x, P x) : ∃ x, P x ∧ ∀ y, P y → m x ≤ m y := by
  obtain ⟨k, ⟨x, hx, hk⟩, hmin⟩ := pk_least (fun k => ∃ x, P x ∧ m x = k) (by obtain ⟨x, hx⟩ := h; exact ⟨m x, x, hx, rfl⟩)
  refine ⟨x, hx, fun y hy => ?_⟩
  rcases Nat.lt_or_ge (m y) k with g | g
  · exact absurd ⟨y, hy, rfl⟩ (hmin _ g)
  · omega
theorem hall_part {A : Nat → Nat} {k x y : Nat} (h : Hall A k x) (hs : sub y x) : Hall A k y := fun w hw => h w (sub_tr hw hs)
theorem hall_mt {A : Nat → Nat} : ∀ {k x : Nat}, x < 256 → Hall A k x → mt A k x = true
  | 0, x, hx, h => by
    have := h x (sub_rf x)
    have z : pc x = 0 := Nat.le_zero.mp this
    rw [pc_eq0 x hx z]
    rfl
  | k + 1, x, hx, h => by
    rw [mt_succ]
    rcases Classical.em (Hall A k x) with g | g
    · exact Or.inl (hall_mt hx g)
    · refine Or.inr ?_
      have hdef : ∃ w, sub w x ∧ cv A k w < pc w := by
        rcases Classical.em (∃ w, sub w x ∧ cv A k w < pc w) with q | q
        · exact q
        · refine absurd (fun w hw => ?_) g
          rcases Nat.lt_or_ge (cv A k w) (pc w) with z | z
          · exact absurd ⟨w, hw, z⟩ q
          · exact z
      obtain ⟨d, ⟨hd, hdd⟩, hmin⟩ := least_by pc hdef
      have hb : ∀ w, sub w x → pc w ≤ cv A k w + 1 := fun w hw => by
        have := h w hw
        unfold cv at this
        split at this <;> omega
      have hm : A k &&& d ≠ 0 := by
        intro z
        have := h d hd
        unfold cv at this
        rw [if_pos z] at this
        omega
      obtain ⟨e, he1, he2⟩ := meet_iff.mp hm
      have hxe := hd e he2
      have he8 : e < 8 := tb_lt (n := 8) hx hxe
      refine ⟨e, he8, he1, hxe, hall_mt (dif_lt (n := 8) hx) ?_⟩
      intro w hw
      rcases Nat.lt_or_ge (cv A k w) (pc w) with z | z
      · exfalso
        have hwx := sub_tr hw (sub_dif x (2 ^ e))
        have s1 := cv_sub (A := A) (k := k) (v := d) (w := w)
        have s2 := pc_or_and d w
        have s3 := hb (d ||| w) (sub_or hd hwx)
        have s4 := hb (d &&& w) (sub_tr (sub_and_l d w) hd)
        have s5 := hmin (d &&& w) ⟨sub_tr (sub_and_l d w) hd, by omega⟩
        have s6 := sub_eq (sub_lt (n := 8) hd hx) (sub_and_l d w) s5
        have s7 : sub d w := by
          have := sub_and_r d w
          rw [s6] at this
          exact this
        have s8 := hw e (s7 e he2)
        rw [dif_tb, tb_two] at s8
        simp at s8
      · exact z
theorem mt_iff {A : Nat → Nat} {k x : Nat} (hx : x < 256) : mt A k x = true ↔ Hall A k x := ⟨mt_hall, hall_mt hx⟩
/-- the family without one of its sets -/
def wo (A : Nat → Nat) (j : Nat) : Nat → Nat := fun i => if i = j then 0 else A i
theorem wo_lt {A : Nat → Nat} {j k : Nat} (h : k ≤ j) : ∀ i, i < k → wo A j i = A i := fun i hi => if_neg (by omega)
theorem mt_no {A : Nat → Nat} {k x : Nat} (h : A k = 0) : mt A (k + 1) x = mt A k x := by
  cases q : mt A k x with
  | true => rw [mt_succ.mpr (Or.inl q)]
  | false =>
    cases r : mt A (k + 1) x with
    | false => rfl
    | true =>
      rcases mt_succ.mp r with g | ⟨e, -, h1, -⟩
      · rw [g] at q; cases q
      · rw [h, Nat.zero_testBit] at h1; cases h1
theorem mt_up {A : Nat → Nat} {k m x : Nat} (h : mt A k x = true) : mt A (k + m) x = true := by
  induction m with
  | zero => exact h
  | succ m ih => exact mt_succ.mpr (Or.inl ih)
theorem dif_comm (x a b : Nat) : dif (dif x a) b = dif (dif x b) a := tb_ext fun i => by
  simp only [dif_tb]
  cases x.testBit i <;> cases a.testBit i <;> cases b.testBit i <;> rfl
/-- of a matched set each post has a set of its own: the rest is matched by the others -/
theorem mt_take {A : Nat → Nat} : ∀ {k x i : Nat}, mt A k x = true → x.testBit i = true → ∃ j, j < k ∧ (A j).testBit i = true ∧ mt (wo A j) k (dif x (2 ^ i)) = true
  | 0, x, i, h, hi => by
    unfold mt at h
    rw [beq_iff_eq.mp h, Nat.zero_testBit] at hi
    cases hi
  | k + 1, x, i, h, hi => by
    rcases mt_succ.mp h with g | ⟨e, he, h1, h2, h3⟩
    · obtain ⟨j, j1, j2, j3⟩ := mt_take g hi
      exact ⟨j, by omega, j2, mt_up (m := 1) j3⟩
    · by_cases q : e = i
      · subst q
        refine ⟨k, by omega, h1, ?_⟩
        rw [mt_no (by unfold wo; exact if_pos rfl), mt_congr (wo_lt (Nat.le_refl k))]
        exact h3
      · have hi2 : (dif x (2 ^ e)).testBit i = true := by
          rw [dif_tb, hi, tb_two]; simp [q]
        obtain ⟨j, j1, j2, j3⟩ := mt_take h3 hi2
        refine ⟨j, by omega, j2, mt_succ.mpr (Or.inr ⟨e, he, ?_, ?_, ?_⟩)⟩
        · rw [show wo A j k = A k from if_neg (by omega)]; exact h1
        · rw [dif_tb, h2, tb_two]; simp [Ne.symm q]
        · rw [dif_comm]; exact j3
theorem mt_give {A : Nat → Nat} {i j : Nat} (h8 : i < 8) (hA : (A j).testBit i = true) : ∀ {k x : Nat}, j < k → x.testBit i = true → mt (wo A j) k (dif x (2 ^ i)) = true → mt A k x = true
  | 0, x, hj, _, _ => by omega
  | k + 1, x, hj, hi, h => by
    by_cases q : j = k
    · subst q
      rw [mt_no (by unfold wo; exact if_pos rfl), mt_congr (wo_lt (Nat.le_refl j))] at h
      exact mt_succ.mpr (Or.inr ⟨i, h8, hA, hi, h⟩)
    · rcases mt_succ.mp h with g | ⟨e, he, h1, h2, h3⟩
      · exact mt_succ.mpr (Or.inl (mt_give h8 hA (by omega) hi g))
      · rw [show wo A j k = A k from if_neg (by omega)] at h1
        rw [dif_tb, tb_two, Bool.and_eq_true] at h2
        have hei : ¬ i = e := by
          intro z
          subst z
          simp at h2
        refine mt_succ.mpr (Or.inr ⟨e, he, h1, h2.1, mt_give h8 hA (by omega) ?_ ?_⟩)
        · rw [dif_tb, hi, tb_two]; simp [Ne.symm hei]
        · rw [dif_comm]; exact h3
theorem mt_step {A : Nat → Nat} {k x i : Nat} (h8 : i < 8) (hi : x.testBit i = true) : mt A k x = true ↔ ∃ j, j < k ∧ (A j).testBit i = true ∧ mt (wo A j) k (dif x (2 ^ i)) = true :=
  ⟨fun h => mt_take h hi, fun ⟨_, j1, j2, j3⟩ => mt_give h8 j2 j1 hi j3⟩
/-- least of numbers -/
def mn (f : Nat → Nat) : Nat → Nat
  | 0 => f 0
  | k + 1 => min (mn f k) (f (k + 1))
theorem mn_le {f : Nat → Nat} : ∀ {k i : Nat}, i ≤ k → mn f k ≤ f i
  | 0, i, h => by rw [show i = 0 by omega]; exact Nat.le_refl _
  | k + 1, i, h => by
    unfold mn
    by_cases q : i = k + 1
    · subst q; exact Nat.min_le_right _ _
    · exact Nat.le_trans (Nat.min_le_left _ _) (mn_le (by omega))
theorem mn_at {f : Nat → Nat} : ∀ {k : Nat}, ∃ i, i ≤ k ∧ mn f k = f i
  | 0 => ⟨0, Nat.le_refl _, rfl⟩
  | k + 1 => by
    unfold mn
    obtain ⟨i, h1, h2⟩ := mn_at (f := f) (k := k)
    rcases Nat.le_total (mn f k) (f (k + 1)) with q | q
    · exact ⟨i, by omega, by rw [Nat.min_eq_left q]; exact h2⟩
    · exact ⟨k + 1, Nat.le_refl _, Nat.min_eq_right q⟩
/-- the rank of a set by a family -/
def gr (A : Nat → Nat) (k z : Nat) : Nat := mn (fun w => cv A k (w &&& z) + pc (dif z w)) 255
theorem gr_le {A : Nat → Nat} {k z w : Nat} (hw : sub w z) (hz : z < 256) : gr A k z ≤ cv A k w + pc (dif z w) := by
  have h := mn_le (f := fun w => cv A k (w &&& z) + pc (dif z w)) (k := 255) (i := w) (by have := sub_lt (n := 8) hw hz; omega)
  have e : w &&& z = w := sub_and hw
  rw [e] at h
  exact h
theorem gr_at {A : Nat → Nat} {k z : Nat} : ∃ w, sub w z ∧ gr A k z = cv A k w + pc (dif z w) := by
  obtain ⟨w, -, h⟩ := mn_at (f := fun w => cv A k (w &&& z) + pc (dif z w)) (k := 255)
  refine ⟨w &&& z, sub_and_r w z, ?_⟩
  have e : dif z (w &&& z) = dif z w := tb_ext fun i => by
    simp only [dif_tb, Nat.testBit_and]
    cases w.testBit i <;> cases z.testBit i <;> rfl
  rw [e]
  exact h
theorem gr_congr {A B : Nat → Nat} {k z : Nat} (h : ∀ j, j < k → A j = B j) : gr A k z = gr B k z := by
  unfold gr
  congr 1
  funext w
  rw [cv_congr h]
theorem pc_sub_dif {z w : Nat} (h : sub w z) : pc (dif z w) + pc w = pc z := by
  have q := pc_dif z w
  rw [Nat.and_comm, sub_and h] at q
  exact q
theorem gr_free {A : Nat → Nat} {k x : Nat} (hx : x < 256) : gr A k x = pc x ↔ Hall A k x := by
  constructor
  · intro h w hw
    have := gr_le (A := A) (k := k) hw hx
    have := pc_sub_dif hw
    omega
  · intro h
    obtain ⟨w, hw, e⟩ := gr_at (A := A) (k := k) (z := x)
    have a := h w hw
    have b := pc_sub_dif hw
    have c := gr_le (A := A) (k := k) (sub_0 x) hx
    rw [cv_0] at c
    have d := pc_sub_dif (sub_0 x)
    rw [pc_0] at d
    omega
theorem gr_rk (A : Nat → Nat) (k : Nat) {n : Nat} (hn : n ≤ 8) : RK n (gr A k) := by
  have p8 := pow8 hn
  refine ⟨hn, ?_, fun x e hx he => ⟨?_, ?_⟩, fun x e f hx he hf h1 h2 => ?_⟩
  · have := gr_le (A := A) (k := k) (sub_0 0) (by omega)
    rw [cv_0] at this
    have q : pc (dif 0 0) = 0 := by decide
    omega
  · obtain ⟨w, hw, e1⟩ := gr_at (A := A) (k := k) (z := x ||| 2 ^ e)
    rw [e1]
    have h := gr_le (A := A) (k := k) (sub_and_l x w) (by omega)
    have a := cv_mono (A := A) (k := k) (sub_and_r x w)
    have b : pc (dif x (x &&& w)) ≤ pc (dif (x ||| 2 ^ e) w) := pc_mono fun i hi => by
      rw [dif_tb, Nat.testBit_and, Bool.and_eq_true] at hi
      rw [dif_tb, Nat.testBit_or, hi.1]
      have := hi.2
      rw [hi.1] at this
      exact this
    omega
  · obtain ⟨w, hw, e1⟩ := gr_at (A := A) (k := k) (z := x)
    rw [e1]
    have h := gr_le (A := A) (k := k) (sub_tr hw (sub_or_l x (2 ^ e))) (by have := or_two_lt hx he; omega)
    have b := pc_or_and (dif x w) (2 ^ e)
    have c := pc_two e (by omega)
    have d : pc (dif (x ||| 2 ^ e) w) ≤ pc (dif x w ||| 2 ^ e) := pc_mono fun i hi => by
      rw [dif_tb, Nat.testBit_or, Bool.and_eq_true] at hi
      rw [Nat.testBit_or, dif_tb]
      rcases Bool.or_eq_true_iff.mp hi.1 with q | q
      · rw [q, hi.2]; rfl
      · rw [q, Bool.or_true]
    omega
  · have hxe := or_two_lt hx he
    have hxf := or_two_lt hx hf
    by_cases xe : x.testBit e = true
    · rw [or_in xe]; exact h2
    by_cases xf : x.testBit f = true
    · have : (x ||| 2 ^ e).testBit f = true := by rw [Nat.testBit_or, xf]; rfl
      rw [or_in this]; exact h1
    have xe : x.testBit e = false := by cases q : x.testBit e with | false => rfl | true => exact absurd q xe
    have xf : x.testBit f = false := by cases q : x.testBit f with | false => rfl | true => exact absurd q xf
    obtain ⟨u, hu, eu⟩ := gr_at (A := A) (k := k) (z := x ||| 2 ^ e)
    obtain ⟨v, hv, ev⟩ := gr_at (A := A) (k := k) (z := x ||| 2 ^ f)
    have ue : u.testBit e = true := by
      cases q : u.testBit e with
      | true => rfl
      | false =>
        exfalso
        have s : sub u x := fun i hi => by
          have := hu i hi
          rw [Nat.testBit_or, Bool.or_eq_true] at this
          rcases this with z | z
          · exact z
          · rw [tb_two, decide_eq_true_eq] at z; rw [← z, q] at hi; cases hi
        have a := gr_le (A := A) (k := k) s (by omega)
        have b : dif (x ||| 2 ^ e) u = dif x u ||| 2 ^ e := tb_ext fun i => by
          rw [dif_tb, Nat.testBit_or, Nat.testBit_or, dif_tb, tb_two]
          by_cases z : e = i
          · subst z; simp [q, xe]
          · simp [z]
        have c := pc_add (a := dif x u) (e := e) (by omega) (by rw [dif_tb, xe]; rfl)
        rw [b, c] at eu
        omega
    have vf : v.testBit f = true := by
      cases q : v.testBit f with
      | true => rfl
      | false =>
        exfalso
        have s : sub v x := fun i hi => by
          have := hv i hi
          rw [Nat.testBit_or, Bool.or_eq_true] at this
          rcases this with z | z
          · exact z
          · rw [tb_two, decide_eq_true_eq] at z; rw [← z, q] at hi; cases hi
        have a := gr_le (A := A) (k := k) s (by omega)
        have b : dif (x ||| 2 ^ f) v = dif x v ||| 2 ^ f := tb_ext fun i => by
          rw [dif_tb, Nat.testBit_or, Nat.testBit_or, dif_tb, tb_two]
          by_cases z : f = i
          · subst z; simp [q, xf]
          · simp [z]
        have c := pc_add (a := dif x v) (e := f) (by omega) (by rw [dif_tb, xf]; rfl)
        rw [b, c] at ev
        omega
    by_cases ef : e = f
    · subst ef
      rw [or_in (by rw [Nat.testBit_or, tb_two]; simp)]
      exact h1
    have hz := or_two_lt hxe hf
    have s1 : sub (u ||| v) (x ||| 2 ^ e ||| 2 ^ f) := sub_or (sub_tr hu (sub_or_l _ _)) (sub_tr hv (sub_or (sub_tr (sub_or_l x (2 ^ e)) (sub_or_l _ _)) (sub_or_r _ _)))
    have s2 : sub (u &&& v) x := fun i hi => by
      rw [Nat.testBit_and, Bool.and_eq_true] at hi
      have a := hu i hi.1
      have b := hv i hi.2
      rw [Nat.testBit_or, Bool.or_eq_true, tb_two, decide_eq_true_eq] at a b
      rcases a with z | z
      · exact z
      · rcases b with y | y
        · exact y
        · omega
    have a1 := gr_le (A := A) (k := k) s1 (by omega)
    have a2 := gr_le (A := A) (k := k) s2 (by omega)
    have a3 := cv_sub (A := A) (k := k) (v := u) (w := v)
    have p1 := pc_sub_dif s1
    have p2 := pc_sub_dif s2
    have p3 := pc_sub_dif hu
    have p4 := pc_sub_dif hv
    have p5 := pc_or_and u v
    have p6 := pc_add (a := x) (e := e) (by omega) xe
    have p7 := pc_add (a := x) (e := f) (by omega) xf
    have p8 := pc_add (a := x ||| 2 ^ e) (e := f) (by omega) (by rw [Nat.testBit_or, xf, tb_two]; simp [ef])
    have m1 : gr A k (x ||| 2 ^ e) ≤ gr A k (x ||| 2 ^ e ||| 2 ^ f) := by
      obtain ⟨w, hw, e1⟩ := gr_at (A := A) (k := k) (z := x ||| 2 ^ e ||| 2 ^ f)
      rw [e1]
      have h := gr_le (A := A) (k := k) (sub_and_l (x ||| 2 ^ e) w) (by omega)
      have a := cv_mono (A := A) (k := k) (sub_and_r (x ||| 2 ^ e) w)
      have b : pc (dif (x ||| 2 ^ e) ((x ||| 2 ^ e) &&& w)) ≤ pc (dif (x ||| 2 ^ e ||| 2 ^ f) w) := pc_mono fun i hi => by
        rw [dif_tb, Nat.testBit_and, Bool.and_eq_true] at hi
        rw [dif_tb, Nat.testBit_or, hi.1]
        have := hi.2
        rw [hi.1] at this
        exact this
      omega
    omega
