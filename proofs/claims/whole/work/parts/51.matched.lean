/-! PURE 6: states read and written; the table of matched sets (class) -/
theorem l0 : (0 : Int32) = nI 0 := rfl
theorem l1 : (1 : Int32) = nI 1 := rfl
theorem l2 : (2 : Int32) = nI 2 := rfl
theorem l3 : (3 : Int32) = nI 3 := rfl
theorem l4 : (4 : Int32) = nI 4 := rfl
theorem l6 : (6 : Int32) = nI 6 := rfl
theorem l8 : (8 : Int32) = nI 8 := rfl
theorem l63 : (63 : Int32) = nI 63 := rfl
theorem ib_f {α : Type} {b : Bool} {x y : α} (h : b = false) : (if bI b = 0 then x else y) = x := by subst h; rfl
theorem ib_t {α : Type} {b : Bool} {x y : α} (h : b = true) : (if bI b = 0 then x else y) = y := by subst h; rfl
theorem ib_u {α : Type} {b : Bool} {x y : α} : (if bI b = 0 then x else y) = if b = true then y else x := by cases b <;> rfl
theorem st_II (s : ST) (k j : Nat) (v : Int32) : (sI s k v).1 j = if j = k then v else s.1 j := rfl
theorem st_IA (s : ST) (k : Nat) (v : Int32) : (sI s k v).2.1 = s.2.1 := rfl
theorem st_IJ (s : ST) (k : Nat) (v : Int32) : (sI s k v).2.2 = s.2.2 := rfl
theorem st_AI (s : ST) (k : Nat) (f : Nat → Int32) : (sA s k f).1 = s.1 := rfl
theorem st_AA (s : ST) (k j : Nat) (f : Nat → Int32) : (sA s k f).2.1 j = if j = k then f else s.2.1 j := rfl
theorem st_AJ (s : ST) (k : Nat) (f : Nat → Int32) : (sA s k f).2.2 = s.2.2 := rfl
theorem st_JI (s : ST) (k : Nat) (f : Nat → Int64) : (sJ s k f).1 = s.1 := rfl
theorem st_JA (s : ST) (k : Nat) (f : Nat → Int64) : (sJ s k f).2.1 = s.2.1 := rfl
theorem st_JJ (s : ST) (k j : Nat) (f : Nat → Int64) : (sJ s k f).2.2 j = if j = k then f else s.2.2 j := rfl
theorem st_eq {s t : ST} (h1 : ∀ k, s.1 k = t.1 k) (h2 : ∀ k, s.2.1 k = t.2.1 k) (h3 : ∀ k, s.2.2 k = t.2.2 k) : s = t := Prod.ext (funext h1) (Prod.ext (funext h2) (funext h3))
theorem sA_sA (s : ST) (k : Nat) (f g : Nat → Int32) : sA (sA s k f) k g = sA s k g := st_eq (fun _ => rfl) (fun j => by simp only [st_AA]; by_cases h : j = k <;> simp [h]) (fun _ => rfl)
theorem sJ_sJ (s : ST) (k : Nat) (f g : Nat → Int64) : sJ (sJ s k f) k g = sJ s k g := st_eq (fun _ => rfl) (fun _ => rfl) (fun j => by simp only [st_JJ]; by_cases h : j = k <;> simp [h])
theorem sI_sI (s : ST) (k : Nat) (v w : Int32) : sI (sI s k v) k w = sI s k w := st_eq (fun j => by simp only [st_II]; by_cases h : j = k <;> simp [h]) (fun _ => rfl) (fun _ => rfl)
theorem sA_id (s : ST) (k : Nat) : sA s k (s.2.1 k) = s := st_eq (fun _ => rfl) (fun j => by simp only [st_AA]; by_cases h : j = k <;> simp [h]) (fun _ => rfl)
theorem sJ_id (s : ST) (k : Nat) : sJ s k (s.2.2 k) = s := st_eq (fun _ => rfl) (fun _ => rfl) (fun j => by simp only [st_JJ]; by_cases h : j = k <;> simp [h])
theorem sI_id (s : ST) (k : Nat) : sI s k (s.1 k) = s := st_eq (fun j => by simp only [st_II]; by_cases h : j = k <;> simp [h]) (fun _ => rfl) (fun _ => rfl)
/-- filled up to i -/
def fl {α : Type} (a g : Nat → α) (i : Nat) : Nat → α := fun j => if j < i then g j else a j
theorem fl_0 {α : Type} (a g : Nat → α) : fl a g 0 = a := funext fun j => by simp [fl]
theorem fl_u (a g : Nat → Int32) (i : Nat) : upd (fl a g i) i (g i) = fl a g (i + 1) := funext fun j => by
  unfold upd fl
  by_cases h : j = i
  · subst h; simp
  · by_cases q : j < i
    · simp [h, q, Nat.lt_succ_of_lt q]
    · simp [h, q, show ¬ j < i + 1 by omega]
theorem fl_J (a g : Nat → Int64) (i : Nat) : vp_updL (fl a g i) i (g i) = fl a g (i + 1) := funext fun j => by
  unfold vp_updL fl
  by_cases h : j = i
  · subst h; simp
  · by_cases q : j < i
    · simp [h, q, Nat.lt_succ_of_lt q]
    · simp [h, q, show ¬ j < i + 1 by omega]
theorem fl_in {α : Type} {a g : Nat → α} {i j : Nat} (h : j < i) : fl a g i j = g j := if_pos h
theorem fl_out {α : Type} {a g : Nat → α} {i j : Nat} (h : i ≤ j) : fl a g i j = a j := if_neg (by omega)
/-- a loop with what holds of it -/
theorem loopInv {T A : Type} {F : Nat → Nat → A → Option T} {Q : T → Prop} (P : Nat → A → Prop) (N : Nat) (hs : ∀ k i a, i < N → P i a → ∃ a', P (i + 1) a' ∧ F (k + 1) i a = F k (i + 1) a') (hx : ∀ k a, P N a → ∃ t, F (k + 1) N a = some t ∧ Q t) : ∀ d i a k, i + d = N → d < k → P i a → ∃ t, F k i a = some t ∧ Q t := by
  intro d
  induction d with
  | zero =>
    intro i a k h1 h2 hp
    obtain ⟨k, rfl⟩ : ∃ j, k = j + 1 := ⟨k - 1, by omega⟩
    rw [show i = N by omega] at hp ⊢
    exact hx k a hp
  | succ d ih =>
    intro i a k h1 h2 hp
    obtain ⟨k, rfl⟩ : ∃ j, k = j + 1 := ⟨k - 1, by omega⟩
    obtain ⟨a', p', e⟩ := hs k i a (by omega) hp
    rw [e]
    exact ih (i + 1) a' k (by omega) (by omega) p'
theorem loopInv0 {T A : Type} {F : Nat → Nat → A → Option T} {Q : T → Prop} (P : Nat → A → Prop) (N : Nat) (hs : ∀ k i a, i < N → P i a → ∃ a', P (i + 1) a' ∧ F (k + 1) i a = F k (i + 1) a') (hx : ∀ k a, P N a → ∃ t, F (k + 1) N a = some t ∧ Q t) {k : Nat} (hk : N < k) {a : A} (h0 : P 0 a) : ∃ t, F k 0 a = some t ∧ Q t := loopInv P N hs hx N 0 a k (by omega) hk h0
/-- one of 64 bits -/
def lb (w : Int64) (p : Nat) : Bool := w.toBitVec.getLsbD p
def BT (a : Nat → Int64) (x : Nat) : Bool := lb (a (x / 64)) (x % 64)
theorem lb_or (a b : Int64) (p : Nat) : lb (a ||| b) p = (lb a p || lb b p) := by
  unfold lb
  rw [Int64.toBitVec_or, BitVec.getLsbD_or]
theorem lb_and (a b : Int64) (p : Nat) : lb (a &&& b) p = (lb a p && lb b p) := by
  unfold lb
  rw [Int64.toBitVec_and, BitVec.getLsbD_and]
theorem lb_sh {w s : Int64} {k p : Nat} (hk : (s.toBitVec.smod 64).toNat = k) (hp : p < 64) : lb (w <<< s) p = (decide (k ≤ p) && lb w (p - k)) := by
  have e : (w <<< s).toBitVec = w.toBitVec <<< k := by
    show w.toBitVec <<< (s.toBitVec.smod 64) = _
    rw [BitVec.shiftLeft_eq', hk]
  unfold lb
  rw [e, BitVec.getLsbD_shiftLeft]
  by_cases h : p < k
  · simp [hp, h, show ¬ k ≤ p by omega]
  · simp [hp, h, show k ≤ p by omega]
theorem lb_test {w : Int64} {s : UInt64} {j : Nat} (hj : j < 64) (hs : s.toNat = j) : ((w.toUInt64 >>> s).toInt64 &&& (1 : Int64)) = if lb w j = true then (1 : Int64) else 0 := by
  have e : (w.toUInt64 >>> s).toInt64.toBitVec = w.toBitVec >>> j := by
    apply BitVec.eq_of_toNat_eq
    show (w.toUInt64 >>> s).toNat = _
    rw [UInt64.toNat_shiftRight, hs, Nat.mod_eq_of_lt hj, BitVec.toNat_ushiftRight]
    rfl
  apply Int64.toBitVec_inj.mp
  rw [Int64.toBitVec_and, e]
  apply BitVec.eq_of_getLsbD_eq
  intro i hi
  rw [BitVec.getLsbD_and, BitVec.getLsbD_ushiftRight]
  unfold lb
  cases i with
  | zero =>
    rw [Nat.add_zero]
    cases w.toBitVec.getLsbD j <;> rfl
  | succ i =>
    have z : (1 : Int64).toBitVec.getLsbD (i + 1) = false := by
      show (1#64).getLsbD (i + 1) = false
      simp
    rw [z, Bool.and_false]
    cases w.toBitVec.getLsbD j with
    | true => exact z.symm
    | false => simp
theorem lack_lb : ∀ e, e < 6 → ∀ q, q < 64 → lb (lackJ e) q = !q.testBit e := by decide +kernel
theorem sh_near : ∀ e, e < 6 → ((((1 : Int32) <<< (nI e &&& 31)).toInt64 &&& 63).toBitVec.smod 64).toNat = 2 ^ e := by decide +kernel
theorem near_1 : ∀ e, e < 6 → ∀ x, x < 256 → (decide (2 ^ e ≤ x % 64) && !((x % 64 - 2 ^ e).testBit e)) = x.testBit e := by decide +kernel
theorem near_2 : ∀ e, e < 6 → ∀ x, x < 256 → x.testBit e = true → dif x (2 ^ e) / 64 = x / 64 ∧ dif x (2 ^ e) % 64 = x % 64 - 2 ^ e := by decide +kernel
theorem far_6 : ∀ x, x < 256 → x.testBit 6 = decide ((x / 64) % 2 = 1) ∧ (x.testBit 6 = true → dif x (2 ^ 6) / 64 = x / 64 - 1 ∧ dif x (2 ^ 6) % 64 = x % 64) := by decide +kernel
theorem far_7 : ∀ x, x < 256 → x.testBit 7 = decide (2 ≤ x / 64) ∧ (x.testBit 7 = true → dif x (2 ^ 7) / 64 = x / 64 - 2 ∧ dif x (2 ^ 7) % 64 = x % 64) := by decide +kernel
theorem sh_far : ∀ y, y < 64 → ((nI y).toInt64.toUInt64 &&& Int64.toUInt64 63).toNat = y := by decide +kernel
/-- one near step of one word -/
theorem near_w {a b : Int64} {e x : Nat} (he : e < 6) (hx : x < 256) : lb (a ||| ((b &&& lackJ e) <<< (((1 : Int32) <<< (nI e &&& 31)).toInt64 &&& 63))) (x % 64) = (lb a (x % 64) || (x.testBit e && lb b (x % 64 - 2 ^ e))) := by
  have hp : x % 64 < 64 := Nat.mod_lt _ (by omega)
  rw [lb_or, lb_sh (sh_near e he) hp, lb_and, lack_lb e he _ (Nat.lt_of_le_of_lt (Nat.sub_le _ _) hp), ← near_1 e he x hx]
  cases lb a (x % 64) <;> cases decide (2 ^ e ≤ x % 64) <;> cases lb b (x % 64 - 2 ^ e) <;> cases (x % 64 - 2 ^ e).testBit e <;> rfl
theorem mt_zero : ∀ x, x < 256 → lb ((fun j => if j = 0 then (1 : Int64) else 0) (x / 64)) (x % 64) = (x == 0) := by decide +kernel
def mB13 (s : ST) (a b : Nat → Int64) : ST := sJ (sJ s 2 a) 3 b
theorem mB13_id (s : ST) : mB13 s (s.2.2 2) (s.2.2 3) = s := by unfold mB13; rw [sJ_id, sJ_id]
theorem mB13_B (s : ST) (a b c : Nat → Int64) : sJ (mB13 s a b) 2 c = mB13 s c b := st_eq (fun _ => rfl) (fun _ => rfl) (fun j => by
  unfold mB13
  simp only [st_JJ]
  by_cases h : j = 2
  · subst h; rfl
  · simp [h])
theorem mB13_C (s : ST) (a b c : Nat → Int64) : sJ (mB13 s a b) 3 c = mB13 s a c := sJ_sJ _ _ _ _
theorem mB13_mB (s : ST) (a b c d : Nat → Int64) : mB13 (mB13 s a b) c d = mB13 s c d := by rw [show mB13 (mB13 s a b) c d = sJ (sJ (mB13 s a b) 2 c) 3 d from rfl, mB13_B, mB13_C]
theorem mB13_b (s : ST) (a b : Nat → Int64) : (mB13 s a b).2.2 2 = a := rfl
theorem mB13_c (s : ST) (a b : Nat → Int64) : (mB13 s a b).2.2 3 = b := rfl
theorem mB13_1 (s : ST) (a b : Nat → Int64) : (mB13 s a b).1 = s.1 := rfl
theorem mB13_2 (s : ST) (a b : Nat → Int64) : (mB13 s a b).2.1 = s.2.1 := rfl
theorem X1_begin_13_v {n : Nat} (hn : 8 < n) (s : ST) : X1_begin_13 n s = some (sJ s 2 (fl (vp_updL (s.2.2 2) 0 1) (fun j => if j = 0 then 1 else 0) 4)) := by
  unfold X1_begin_13
  have h := loopFrom (F := fun k i (a : ST) => X1_begin_13_L1 k (nI i) a) (t := sJ s 2 (fl (vp_updL (s.2.2 2) 0 1) (fun j => if j = 0 then 1 else 0) 4)) 1 4 (by omega) (fun i => sJ s 2 (fl (vp_updL (s.2.2 2) 0 1) (fun j => if j = 0 then 1 else 0) i)) (fun k i h1 hi => by
      show X1_begin_13_L1_b (X1_begin_13_L1 k) (nI i) _ = _
      unfold X1_begin_13_L1_b
      rw [if_neg (by rw [l4, nI_lep (by omega) (by omega)]; omega), inb_t hi (by omega), gd_t]
      simp only [nm_u, nI_add, nI_1, nI_clamp (show i < 2 ^ 31 by omega), st_JJ, if_true, sJ_sJ]
      rw [← fl_J, if_neg (show ¬ i = 0 by omega)]) (fun k => by
      show X1_begin_13_L1_b (X1_begin_13_L1 k) (nI 4) _ = _
      unfold X1_begin_13_L1_b
      rw [if_pos (by rw [l4, nI_lep (by omega) (by omega)]; exact Nat.le_refl _)]) (k := n) (by omega)
  have e : fl (vp_updL (s.2.2 2) 0 1) (fun j => if j = 0 then (1 : Int64) else 0) 1 = vp_updL (s.2.2 2) 0 1 := funext fun j => by
    unfold fl vp_updL
    by_cases q : j = 0
    · subst q; rfl
    · simp [q]
  rw [e] at h
  rw [show inb (0 : Int32) 4 = true from inb_t (i := 0) (by omega) (by omega), gd_t, nm_u]
  show bd (X1_begin_13_L1 n (nI 1) (sJ s 2 (vp_updL (s.2.2 2) 0 1))) _ = _
  rw [h, bd_s]
theorem X1_near_13_v {n e : Nat} (hn : 8 < n) (he : e < 6) (s : ST) (a b : Nat → Int64) : ∃ a', X1_spread_13 n (mB13 s a b) (nI e) = some (mB13 s a' b) ∧ ∀ x, x < 256 → BT a' x = (BT a x || (x.testBit e && BT b (dif x (2 ^ e)))) := by
  refine ⟨fl a (fun j => a j ||| ((b j &&& lackJ e) <<< (((1 : Int32) <<< (nI e &&& 31)).toInt64 &&& 63))) 4, ?_, fun x hx => ?_⟩
  · unfold X1_spread_13
    rw [if_neg (by rw [l6, nI_lep (by omega) (by omega)]; omega)]
    have h := loop0 (F := fun k i (z : ST) => X1_spread_13_L2 (nI e) k (nI i) z) (t := mB13 s (fl a (fun j => a j ||| ((b j &&& lackJ e) <<< (((1 : Int32) <<< (nI e &&& 31)).toInt64 &&& 63))) 4) b) 4 (fun i => mB13 s (fl a (fun j => a j ||| ((b j &&& lackJ e) <<< (((1 : Int32) <<< (nI e &&& 31)).toInt64 &&& 63))) i) b) (fun k i hi => by
      show X1_spread_13_L2_b (nI e) (X1_spread_13_L2 (nI e) k) (nI i) _ = _
      unfold X1_spread_13_L2_b
      rw [if_neg (by rw [l4, nI_lep (by omega) (by omega)]; omega), inb_t hi (by omega), gd_t, inb_t (show e < 6 from he) (by omega), gd_t, gd_t, gd_t]
      simp only [nm_u, nI_add, nI_1, nI_clamp (show i < 2 ^ 31 by omega), nI_clamp (show e < 2 ^ 31 by omega), mB13_b, mB13_c, mB13_B, fl_out (Nat.le_refl i)]
      rw [← fl_J]) (fun k => by
      show X1_spread_13_L2_b (nI e) (X1_spread_13_L2 (nI e) k) (nI 4) _ = _
      unfold X1_spread_13_L2_b
      rw [if_pos (by rw [l4, nI_lep (by omega) (by omega)]; exact Nat.le_refl _)]) (k := n) (by omega)
    rw [fl_0] at h
    rw [show (0 : Int32) = nI 0 from rfl, h, bd_s]
  · have hq : x / 64 < 4 := by omega
    unfold BT
    rw [fl_in hq, near_w he hx]
    cases q : x.testBit e with
    | false => simp
    | true =>
      obtain ⟨d1, d2⟩ := near_2 e he x hx q
      rw [d1, d2]
theorem far_step_13 {d i : Nat} (k : Nat) (h : i + d < 4) (q : i &&& d = 0) (s : ST) (a b : Nat → Int64) : X1_spread_13_L1 (nI d) (k + 1) (nI i) (mB13 s a b) = X1_spread_13_L1 (nI d) k (nI (i + 1)) (mB13 s (vp_updL a (i + d) (a (i + d) ||| b i)) b) := by
  show X1_spread_13_L1_b (nI d) (X1_spread_13_L1 (nI d) k) (nI i) _ = _
  unfold X1_spread_13_L1_b
  rw [nI_add, l4, if_neg (by rw [nI_lep (by omega) (by omega)]; omega), nx_and, q, if_pos (show nI 0 = 0 from rfl), inb_t h (by omega), gd_t, inb_t (show i < 4 by omega) (by omega), gd_t, gd_t]
  simp only [nm_u, nI_add, nI_1, nI_clamp (show i < 2 ^ 31 by omega), nI_clamp (show i + d < 2 ^ 31 by omega), mB13_B, mB13_b, mB13_c]
theorem far_skip_13 {d i : Nat} (k : Nat) (h : i + d < 4) (q : i &&& d ≠ 0) (s : ST) : X1_spread_13_L1 (nI d) (k + 1) (nI i) s = X1_spread_13_L1 (nI d) k (nI (i + 1)) s := by
  show X1_spread_13_L1_b (nI d) (X1_spread_13_L1 (nI d) k) (nI i) _ = _
  unfold X1_spread_13_L1_b
  have := Nat.and_le_left (n := i) (m := d)
  rw [nI_add, l4, if_neg (by rw [nI_lep (by omega) (by omega)]; omega), nx_and, if_neg (by rw [nI_eq0 (by omega)]; exact q)]
  simp only [nm_u, nI_add, nI_1]
theorem far_end_13 {d i : Nat} (k : Nat) (h : i + d = 4) (s : ST) : X1_spread_13_L1 (nI d) (k + 1) (nI i) s = some s := by
  show X1_spread_13_L1_b (nI d) (X1_spread_13_L1 (nI d) k) (nI i) _ = _
  unfold X1_spread_13_L1_b
  rw [nI_add, l4, if_pos (by rw [nI_lep (by omega) (by omega)]; omega)]
theorem X1_far6_13_v {n : Nat} (hn : 8 < n) (s : ST) (a b : Nat → Int64) : X1_spread_13 n (mB13 s a b) (nI 6) = some (mB13 s (vp_updL (vp_updL a 1 (a 1 ||| b 0)) 3 (a 3 ||| b 2)) b) := by
  obtain ⟨n, rfl⟩ : ∃ m, n = m + 4 := ⟨n - 4, by omega⟩
  unfold X1_spread_13
  rw [if_pos (by decide), nm_u, show (1 : Int32) <<< ((nI 6 - (6 : Int32)) &&& 31) = nI 1 by decide, l0, far_step_13 _ (by omega) (by decide), far_skip_13 _ (by omega) (by decide), far_step_13 _ (by omega) (by decide), far_end_13 _ (by omega), bd_s]
  rfl
theorem X1_far7_13_v {n : Nat} (hn : 8 < n) (s : ST) (a b : Nat → Int64) : X1_spread_13 n (mB13 s a b) (nI 7) = some (mB13 s (vp_updL (vp_updL a 2 (a 2 ||| b 0)) 3 (a 3 ||| b 1)) b) := by
  obtain ⟨n, rfl⟩ : ∃ m, n = m + 3 := ⟨n - 3, by omega⟩
  unfold X1_spread_13
  rw [if_pos (by decide), nm_u, show (1 : Int32) <<< ((nI 7 - (6 : Int32)) &&& 31) = nI 2 by decide, l0, far_step_13 _ (by omega) (by decide), far_step_13 _ (by omega) (by decide), far_end_13 _ (by omega), bd_s]
  rfl
theorem X1_spread_13_v {n e : Nat} (hn : 8 < n) (he : e < 8) (s : ST) (a b : Nat → Int64) : ∃ a', X1_spread_13 n (mB13 s a b) (nI e) = some (mB13 s a' b) ∧ ∀ x, x < 256 → BT a' x = (BT a x || (x.testBit e && BT b (dif x (2 ^ e)))) := by
  rcases Nat.lt_or_ge e 6 with h | h
  · exact X1_near_13_v hn h s a b
  · have : e = 6 ∨ e = 7 := by omega
    rcases this with rfl | rfl
    · refine ⟨_, X1_far6_13_v hn s a b, fun x hx => ?_⟩
      obtain ⟨h1, h2⟩ := far_6 x hx
      unfold BT vp_updL
      have : x / 64 = 0 ∨ x / 64 = 1 ∨ x / 64 = 2 ∨ x / 64 = 3 := by omega
      cases q : x.testBit 6 with
      | false =>
        rw [q] at h1
        rcases this with g | g | g | g <;> rw [g] at h1 ⊢ <;> simp at h1 ⊢
      | true =>
        obtain ⟨d1, d2⟩ := h2 q
        rw [q] at h1
        rw [d1, d2]
        rcases this with g | g | g | g <;> rw [g] at h1 ⊢ <;> simp [lb_or] at h1 ⊢
    · refine ⟨_, X1_far7_13_v hn s a b, fun x hx => ?_⟩
      obtain ⟨h1, h2⟩ := far_7 x hx
      unfold BT vp_updL
      have : x / 64 = 0 ∨ x / 64 = 1 ∨ x / 64 = 2 ∨ x / 64 = 3 := by omega
      cases q : x.testBit 7 with
      | false =>
        rw [q] at h1
        rcases this with g | g | g | g <;> rw [g] at h1 ⊢ <;> simp at h1 ⊢
      | true =>
        obtain ⟨d1, d2⟩ := h2 q
        rw [q] at h1
        rw [d1, d2]
        rcases this with g | g | g | g <;> rw [g] at h1 ⊢ <;> simp [lb_or] at h1 ⊢
/-- the table says which sets the first k of the family match -/
def MB13 (s : ST) (A : Nat → Nat) (k : Nat) : Prop := ∀ x, x < 256 → BT (s.2.2 2) x = mt A k x
theorem X1_join_13_v {n : Nat} (hn : 8 < n) {s : ST} {A : Nat → Nat} {k z : Nat} (hM : MB13 s A k) (hz : z = A k) (h8 : z < 256) : ∃ a b, X1_join_13 n s (nI z) = some (mB13 s a b) ∧ MB13 (mB13 s a b) A (k + 1) := by
  unfold X1_join_13
  have h := loop0 (F := fun k i (z : ST) => X1_join_13_L1 k (nI i) z) (t := mB13 s (s.2.2 2) (fl (s.2.2 3) (s.2.2 2) 4)) 4 (fun i => mB13 s (s.2.2 2) (fl (s.2.2 3) (s.2.2 2) i)) (fun k i hi => by
      show X1_join_13_L1_b (X1_join_13_L1 k) (nI i) _ = _
      unfold X1_join_13_L1_b
      rw [if_neg (by rw [l4, nI_lep (by omega) (by omega)]; omega), inb_t hi (by omega), gd_t, gd_t]
      simp only [nm_u, nI_add, nI_1, nI_clamp (show i < 2 ^ 31 by omega), mB13_b, mB13_c, mB13_C]
      rw [← fl_J]) (fun k => by
      show X1_join_13_L1_b (X1_join_13_L1 k) (nI 4) _ = _
      unfold X1_join_13_L1_b
      rw [if_pos (by rw [l4, nI_lep (by omega) (by omega)]; exact Nat.le_refl _)]) (k := n) (by omega)
  rw [fl_0, mB13_id] at h
  rw [l0, h, bd_s]
  have hb : ∀ x, x < 256 → BT (fl (s.2.2 3) (s.2.2 2) 4) x = mt A k x := fun x hx => by
    unfold BT
    rw [fl_in (by omega)]
    exact hM x hx
  generalize fl (s.2.2 3) (s.2.2 2) 4 = b at hb ⊢
  obtain ⟨t, ht, a', rfl, ha'⟩ := loopInv0 (F := fun k i (u : ST) => X1_join_13_L2 n (nI z) k (nI i) u) (Q := fun u => ∃ a', u = mB13 s a' b ∧ ∀ x, x < 256 → BT a' x = (BT (s.2.2 2) x || (List.range 8).any fun e => z.testBit e && x.testBit e && BT b (dif x (2 ^ e)))) (fun i u => ∃ a', u = mB13 s a' b ∧ ∀ x, x < 256 → BT a' x = (BT (s.2.2 2) x || (List.range i).any fun e => z.testBit e && x.testBit e && BT b (dif x (2 ^ e)))) 8 (fun k i u hi ⟨a', hu, ha'⟩ => by
      subst hu
      show ∃ a'', _ ∧ X1_join_13_L2_b n (nI z) (X1_join_13_L2 n (nI z) k) (nI i) _ = _
      unfold X1_join_13_L2_b
      rw [if_neg (by rw [l8, nI_lep (by omega) (by omega)]; omega), X6_has_v (by omega) (by omega), bd_s]
      cases q : z.testBit i with
      | false =>
        refine ⟨_, ⟨a', rfl, fun x hx => ?_⟩, ?_⟩
        · rw [ha' x hx, List.range_succ, List.any_append]
          simp [q]
        · rw [ib_f rfl, nm_u, nI_1]
      | true =>
        obtain ⟨a'', e1, e2⟩ := X1_spread_13_v hn hi s a' b
        refine ⟨_, ⟨a'', rfl, fun x hx => ?_⟩, ?_⟩
        · rw [e2 x hx, ha' x hx, List.range_succ, List.any_append]
          simp [q, Bool.or_assoc]
        · rw [ib_t rfl, e1, bd_s, nm_u, nI_1]) (fun k u ⟨a', hu, ha'⟩ => by
      subst hu
      refine ⟨_, ?_, a', rfl, ha'⟩
      show X1_join_13_L2_b n (nI z) (X1_join_13_L2 n (nI z) k) (nI 8) _ = _
      unfold X1_join_13_L2_b
      rw [if_pos (by rw [l8, nI_lep (by omega) (by omega)]; exact Nat.le_refl _)]) (k := n) hn (a := mB13 s (s.2.2 2) b) ⟨_, rfl, fun x hx => by simp⟩
  rw [ht, bd_s]
  refine ⟨a', b, rfl, fun x hx => ?_⟩
  rw [mB13_b, ha' x hx, hM x hx, show mt A (k + 1) x = (mt A k x || (List.range 8).any fun e => (A k).testBit e && x.testBit e && mt A k (dif x (2 ^ e))) from rfl, ← hz]
  congr 2
  funext e
  rw [hb _ (dif_lt (n := 8) hx)]
theorem X1_begin_13_m {n : Nat} (hn : 8 < n) (s : ST) (A : Nat → Nat) : ∃ a b, X1_begin_13 n s = some (mB13 s a b) ∧ MB13 (mB13 s a b) A 0 := by
  refine ⟨fl (vp_updL (s.2.2 2) 0 1) (fun j => if j = 0 then 1 else 0) 4, s.2.2 3, (X1_begin_13_v hn s).trans ?_, fun x hx => ?_⟩
  · have := mB13_B s (s.2.2 2) (s.2.2 3) (fl (vp_updL (s.2.2 2) 0 1) (fun j => if j = 0 then 1 else 0) 4)
    rw [mB13_id] at this
    rw [this]
  · rw [mB13_b]
    unfold BT
    rw [fl_in (by omega)]
    exact mt_zero x hx
theorem X1_holds_13_v {s : ST} {A : Nat → Nat} {k x : Nat} (hM : MB13 s A k) (hx : x < 256) : X1_holds_13 s (nI x) = some (bI (mt A k x)) := by
  unfold X1_holds_13
  rw [l6, l63, nx_shr (by omega) (by omega), nx_and, show x &&& 63 = x % 64 from Nat.and_two_pow_sub_one_eq_mod x 6, show x / 2 ^ 6 = x / 64 from rfl, inb_t (show x / 64 < 4 by omega) (by omega), gd_t, nI_clamp (show x / 64 < 2 ^ 31 by omega), lb_test (Nat.mod_lt x (by omega)) (sh_far _ (Nat.mod_lt x (by omega)))]
  rw [show lb (s.2.2 2 (x / 64)) (x % 64) = BT (s.2.2 2) x from rfl, hM x hx]
  cases mt A k x <;> rfl
def mB10 (s : ST) (a b : Nat → Int64) : ST := sJ (sJ s 0 a) 1 b
theorem mB10_id (s : ST) : mB10 s (s.2.2 0) (s.2.2 1) = s := by unfold mB10; rw [sJ_id, sJ_id]
theorem mB10_B (s : ST) (a b c : Nat → Int64) : sJ (mB10 s a b) 0 c = mB10 s c b := st_eq (fun _ => rfl) (fun _ => rfl) (fun j => by
  unfold mB10
  simp only [st_JJ]
  by_cases h : j = 0
  · subst h; rfl
  · simp [h])
theorem mB10_C (s : ST) (a b c : Nat → Int64) : sJ (mB10 s a b) 1 c = mB10 s a c := sJ_sJ _ _ _ _
theorem mB10_mB (s : ST) (a b c d : Nat → Int64) : mB10 (mB10 s a b) c d = mB10 s c d := by rw [show mB10 (mB10 s a b) c d = sJ (sJ (mB10 s a b) 0 c) 1 d from rfl, mB10_B, mB10_C]
theorem mB10_b (s : ST) (a b : Nat → Int64) : (mB10 s a b).2.2 0 = a := rfl
theorem mB10_c (s : ST) (a b : Nat → Int64) : (mB10 s a b).2.2 1 = b := rfl
theorem mB10_1 (s : ST) (a b : Nat → Int64) : (mB10 s a b).1 = s.1 := rfl
theorem mB10_2 (s : ST) (a b : Nat → Int64) : (mB10 s a b).2.1 = s.2.1 := rfl
theorem X1_begin_10_v {n : Nat} (hn : 8 < n) (s : ST) : X1_begin_10 n s = some (sJ s 0 (fl (vp_updL (s.2.2 0) 0 1) (fun j => if j = 0 then 1 else 0) 4)) := by
  unfold X1_begin_10
  have h := loopFrom (F := fun k i (a : ST) => X1_begin_10_L1 k (nI i) a) (t := sJ s 0 (fl (vp_updL (s.2.2 0) 0 1) (fun j => if j = 0 then 1 else 0) 4)) 1 4 (by omega) (fun i => sJ s 0 (fl (vp_updL (s.2.2 0) 0 1) (fun j => if j = 0 then 1 else 0) i)) (fun k i h1 hi => by
      show X1_begin_10_L1_b (X1_begin_10_L1 k) (nI i) _ = _
      unfold X1_begin_10_L1_b
      rw [if_neg (by rw [l4, nI_lep (by omega) (by omega)]; omega), inb_t hi (by omega), gd_t]
      simp only [nm_u, nI_add, nI_1, nI_clamp (show i < 2 ^ 31 by omega), st_JJ, if_true, sJ_sJ]
      rw [← fl_J, if_neg (show ¬ i = 0 by omega)]) (fun k => by
      show X1_begin_10_L1_b (X1_begin_10_L1 k) (nI 4) _ = _
      unfold X1_begin_10_L1_b
      rw [if_pos (by rw [l4, nI_lep (by omega) (by omega)]; exact Nat.le_refl _)]) (k := n) (by omega)
  have e : fl (vp_updL (s.2.2 0) 0 1) (fun j => if j = 0 then (1 : Int64) else 0) 1 = vp_updL (s.2.2 0) 0 1 := funext fun j => by
    unfold fl vp_updL
    by_cases q : j = 0
    · subst q; rfl
    · simp [q]
  rw [e] at h
  rw [show inb (0 : Int32) 4 = true from inb_t (i := 0) (by omega) (by omega), gd_t, nm_u]
  show bd (X1_begin_10_L1 n (nI 1) (sJ s 0 (vp_updL (s.2.2 0) 0 1))) _ = _
  rw [h, bd_s]
theorem X1_near_10_v {n e : Nat} (hn : 8 < n) (he : e < 6) (s : ST) (a b : Nat → Int64) : ∃ a', X1_spread_10 n (mB10 s a b) (nI e) = some (mB10 s a' b) ∧ ∀ x, x < 256 → BT a' x = (BT a x || (x.testBit e && BT b (dif x (2 ^ e)))) := by
  refine ⟨fl a (fun j => a j ||| ((b j &&& lackJ e) <<< (((1 : Int32) <<< (nI e &&& 31)).toInt64 &&& 63))) 4, ?_, fun x hx => ?_⟩
  · unfold X1_spread_10
    rw [if_neg (by rw [l6, nI_lep (by omega) (by omega)]; omega)]
    have h := loop0 (F := fun k i (z : ST) => X1_spread_10_L2 (nI e) k (nI i) z) (t := mB10 s (fl a (fun j => a j ||| ((b j &&& lackJ e) <<< (((1 : Int32) <<< (nI e &&& 31)).toInt64 &&& 63))) 4) b) 4 (fun i => mB10 s (fl a (fun j => a j ||| ((b j &&& lackJ e) <<< (((1 : Int32) <<< (nI e &&& 31)).toInt64 &&& 63))) i) b) (fun k i hi => by
      show X1_spread_10_L2_b (nI e) (X1_spread_10_L2 (nI e) k) (nI i) _ = _
      unfold X1_spread_10_L2_b
      rw [if_neg (by rw [l4, nI_lep (by omega) (by omega)]; omega), inb_t hi (by omega), gd_t, inb_t (show e < 6 from he) (by omega), gd_t, gd_t, gd_t]
      simp only [nm_u, nI_add, nI_1, nI_clamp (show i < 2 ^ 31 by omega), nI_clamp (show e < 2 ^ 31 by omega), mB10_b, mB10_c, mB10_B, fl_out (Nat.le_refl i)]
      rw [← fl_J]) (fun k => by
      show X1_spread_10_L2_b (nI e) (X1_spread_10_L2 (nI e) k) (nI 4) _ = _
      unfold X1_spread_10_L2_b
      rw [if_pos (by rw [l4, nI_lep (by omega) (by omega)]; exact Nat.le_refl _)]) (k := n) (by omega)
    rw [fl_0] at h
    rw [show (0 : Int32) = nI 0 from rfl, h, bd_s]
  · have hq : x / 64 < 4 := by omega
    unfold BT
    rw [fl_in hq, near_w he hx]
    cases q : x.testBit e with
    | false => simp
    | true =>
      obtain ⟨d1, d2⟩ := near_2 e he x hx q
      rw [d1, d2]
theorem far_step_10 {d i : Nat} (k : Nat) (h : i + d < 4) (q : i &&& d = 0) (s : ST) (a b : Nat → Int64) : X1_spread_10_L1 (nI d) (k + 1) (nI i) (mB10 s a b) = X1_spread_10_L1 (nI d) k (nI (i + 1)) (mB10 s (vp_updL a (i + d) (a (i + d) ||| b i)) b) := by
  show X1_spread_10_L1_b (nI d) (X1_spread_10_L1 (nI d) k) (nI i) _ = _
  unfold X1_spread_10_L1_b
  rw [nI_add, l4, if_neg (by rw [nI_lep (by omega) (by omega)]; omega), nx_and, q, if_pos (show nI 0 = 0 from rfl), inb_t h (by omega), gd_t, inb_t (show i < 4 by omega) (by omega), gd_t, gd_t]
  simp only [nm_u, nI_add, nI_1, nI_clamp (show i < 2 ^ 31 by omega), nI_clamp (show i + d < 2 ^ 31 by omega), mB10_B, mB10_b, mB10_c]
theorem far_skip_10 {d i : Nat} (k : Nat) (h : i + d < 4) (q : i &&& d ≠ 0) (s : ST) : X1_spread_10_L1 (nI d) (k + 1) (nI i) s = X1_spread_10_L1 (nI d) k (nI (i + 1)) s := by
  show X1_spread_10_L1_b (nI d) (X1_spread_10_L1 (nI d) k) (nI i) _ = _
  unfold X1_spread_10_L1_b
  have := Nat.and_le_left (n := i) (m := d)
  rw [nI_add, l4, if_neg (by rw [nI_lep (by omega) (by omega)]; omega), nx_and, if_neg (by rw [nI_eq0 (by omega)]; exact q)]
  simp only [nm_u, nI_add, nI_1]
theorem far_end_10 {d i : Nat} (k : Nat) (h : i + d = 4) (s : ST) : X1_spread_10_L1 (nI d) (k + 1) (nI i) s = some s := by
  show X1_spread_10_L1_b (nI d) (X1_spread_10_L1 (nI d) k) (nI i) _ = _
  unfold X1_spread_10_L1_b
  rw [nI_add, l4, if_pos (by rw [nI_lep (by omega) (by omega)]; omega)]
theorem X1_far6_10_v {n : Nat} (hn : 8 < n) (s : ST) (a b : Nat → Int64) : X1_spread_10 n (mB10 s a b) (nI 6) = some (mB10 s (vp_updL (vp_updL a 1 (a 1 ||| b 0)) 3 (a 3 ||| b 2)) b) := by
  obtain ⟨n, rfl⟩ : ∃ m, n = m + 4 := ⟨n - 4, by omega⟩
  unfold X1_spread_10
  rw [if_pos (by decide), nm_u, show (1 : Int32) <<< ((nI 6 - (6 : Int32)) &&& 31) = nI 1 by decide, l0, far_step_10 _ (by omega) (by decide), far_skip_10 _ (by omega) (by decide), far_step_10 _ (by omega) (by decide), far_end_10 _ (by omega), bd_s]
  rfl
theorem X1_far7_10_v {n : Nat} (hn : 8 < n) (s : ST) (a b : Nat → Int64) : X1_spread_10 n (mB10 s a b) (nI 7) = some (mB10 s (vp_updL (vp_updL a 2 (a 2 ||| b 0)) 3 (a 3 ||| b 1)) b) := by
  obtain ⟨n, rfl⟩ : ∃ m, n = m + 3 := ⟨n - 3, by omega⟩
  unfold X1_spread_10
  rw [if_pos (by decide), nm_u, show (1 : Int32) <<< ((nI 7 - (6 : Int32)) &&& 31) = nI 2 by decide, l0, far_step_10 _ (by omega) (by decide), far_step_10 _ (by omega) (by decide), far_end_10 _ (by omega), bd_s]
  rfl
theorem X1_spread_10_v {n e : Nat} (hn : 8 < n) (he : e < 8) (s : ST) (a b : Nat → Int64) : ∃ a', X1_spread_10 n (mB10 s a b) (nI e) = some (mB10 s a' b) ∧ ∀ x, x < 256 → BT a' x = (BT a x || (x.testBit e && BT b (dif x (2 ^ e)))) := by
  rcases Nat.lt_or_ge e 6 with h | h
  · exact X1_near_10_v hn h s a b
  · have : e = 6 ∨ e = 7 := by omega
    rcases this with rfl | rfl
    · refine ⟨_, X1_far6_10_v hn s a b, fun x hx => ?_⟩
      obtain ⟨h1, h2⟩ := far_6 x hx
      unfold BT vp_updL
      have : x / 64 = 0 ∨ x / 64 = 1 ∨ x / 64 = 2 ∨ x / 64 = 3 := by omega
      cases q : x.testBit 6 with
      | false =>
        rw [q] at h1
        rcases this with g | g | g | g <;> rw [g] at h1 ⊢ <;> simp at h1 ⊢
      | true =>
        obtain ⟨d1, d2⟩ := h2 q
        rw [q] at h1
        rw [d1, d2]
        rcases this with g | g | g | g <;> rw [g] at h1 ⊢ <;> simp [lb_or] at h1 ⊢
    · refine ⟨_, X1_far7_10_v hn s a b, fun x hx => ?_⟩
      obtain ⟨h1, h2⟩ := far_7 x hx
      unfold BT vp_updL
      have : x / 64 = 0 ∨ x / 64 = 1 ∨ x / 64 = 2 ∨ x / 64 = 3 := by omega
      cases q : x.testBit 7 with
      | false =>
        rw [q] at h1
        rcases this with g | g | g | g <;> rw [g] at h1 ⊢ <;> simp at h1 ⊢
      | true =>
        obtain ⟨d1, d2⟩ := h2 q
        rw [q] at h1
        rw [d1, d2]
        rcases this with g | g | g | g <;> rw [g] at h1 ⊢ <;> simp [lb_or] at h1 ⊢
/-- the table says which sets the first k of the family match -/
def MB10 (s : ST) (A : Nat → Nat) (k : Nat) : Prop := ∀ x, x < 256 → BT (s.2.2 0) x = mt A k x
theorem X1_join_10_v {n : Nat} (hn : 8 < n) {s : ST} {A : Nat → Nat} {k z : Nat} (hM : MB10 s A k) (hz : z = A k) (h8 : z < 256) : ∃ a b, X1_join_10 n s (nI z) = some (mB10 s a b) ∧ MB10 (mB10 s a b) A (k + 1) := by
  unfold X1_join_10
  have h := loop0 (F := fun k i (z : ST) => X1_join_10_L1 k (nI i) z) (t := mB10 s (s.2.2 0) (fl (s.2.2 1) (s.2.2 0) 4)) 4 (fun i => mB10 s (s.2.2 0) (fl (s.2.2 1) (s.2.2 0) i)) (fun k i hi => by
      show X1_join_10_L1_b (X1_join_10_L1 k) (nI i) _ = _
      unfold X1_join_10_L1_b
      rw [if_neg (by rw [l4, nI_lep (by omega) (by omega)]; omega), inb_t hi (by omega), gd_t, gd_t]
      simp only [nm_u, nI_add, nI_1, nI_clamp (show i < 2 ^ 31 by omega), mB10_b, mB10_c, mB10_C]
      rw [← fl_J]) (fun k => by
      show X1_join_10_L1_b (X1_join_10_L1 k) (nI 4) _ = _
      unfold X1_join_10_L1_b
      rw [if_pos (by rw [l4, nI_lep (by omega) (by omega)]; exact Nat.le_refl _)]) (k := n) (by omega)
  rw [fl_0, mB10_id] at h
  rw [l0, h, bd_s]
  have hb : ∀ x, x < 256 → BT (fl (s.2.2 1) (s.2.2 0) 4) x = mt A k x := fun x hx => by
    unfold BT
    rw [fl_in (by omega)]
    exact hM x hx
  generalize fl (s.2.2 1) (s.2.2 0) 4 = b at hb ⊢
  obtain ⟨t, ht, a', rfl, ha'⟩ := loopInv0 (F := fun k i (u : ST) => X1_join_10_L2 n (nI z) k (nI i) u) (Q := fun u => ∃ a', u = mB10 s a' b ∧ ∀ x, x < 256 → BT a' x = (BT (s.2.2 0) x || (List.range 8).any fun e => z.testBit e && x.testBit e && BT b (dif x (2 ^ e)))) (fun i u => ∃ a', u = mB10 s a' b ∧ ∀ x, x < 256 → BT a' x = (BT (s.2.2 0) x || (List.range i).any fun e => z.testBit e && x.testBit e && BT b (dif x (2 ^ e)))) 8 (fun k i u hi ⟨a', hu, ha'⟩ => by
      subst hu
      show ∃ a'', _ ∧ X1_join_10_L2_b n (nI z) (X1_join_10_L2 n (nI z) k) (nI i) _ = _
      unfold X1_join_10_L2_b
      rw [if_neg (by rw [l8, nI_lep (by omega) (by omega)]; omega), X6_has_v (by omega) (by omega), bd_s]
      cases q : z.testBit i with
      | false =>
        refine ⟨_, ⟨a', rfl, fun x hx => ?_⟩, ?_⟩
        · rw [ha' x hx, List.range_succ, List.any_append]
          simp [q]
        · rw [ib_f rfl, nm_u, nI_1]
      | true =>
        obtain ⟨a'', e1, e2⟩ := X1_spread_10_v hn hi s a' b
        refine ⟨_, ⟨a'', rfl, fun x hx => ?_⟩, ?_⟩
        · rw [e2 x hx, ha' x hx, List.range_succ, List.any_append]
          simp [q, Bool.or_assoc]
        · rw [ib_t rfl, e1, bd_s, nm_u, nI_1]) (fun k u ⟨a', hu, ha'⟩ => by
      subst hu
      refine ⟨_, ?_, a', rfl, ha'⟩
      show X1_join_10_L2_b n (nI z) (X1_join_10_L2 n (nI z) k) (nI 8) _ = _
      unfold X1_join_10_L2_b
      rw [if_pos (by rw [l8, nI_lep (by omega) (by omega)]; exact Nat.le_refl _)]) (k := n) hn (a := mB10 s (s.2.2 0) b) ⟨_, rfl, fun x hx => by simp⟩
  rw [ht, bd_s]
  refine ⟨a', b, rfl, fun x hx => ?_⟩
  rw [mB10_b, ha' x hx, hM x hx, show mt A (k + 1) x = (mt A k x || (List.range 8).any fun e => (A k).testBit e && x.testBit e && mt A k (dif x (2 ^ e))) from rfl, ← hz]
  congr 2
  funext e
  rw [hb _ (dif_lt (n := 8) hx)]
theorem X1_begin_10_m {n : Nat} (hn : 8 < n) (s : ST) (A : Nat → Nat) : ∃ a b, X1_begin_10 n s = some (mB10 s a b) ∧ MB10 (mB10 s a b) A 0 := by
  refine ⟨fl (vp_updL (s.2.2 0) 0 1) (fun j => if j = 0 then 1 else 0) 4, s.2.2 1, (X1_begin_10_v hn s).trans ?_, fun x hx => ?_⟩
  · have := mB10_B s (s.2.2 0) (s.2.2 1) (fl (vp_updL (s.2.2 0) 0 1) (fun j => if j = 0 then 1 else 0) 4)
    rw [mB10_id] at this
    rw [this]
  · rw [mB10_b]
    unfold BT
    rw [fl_in (by omega)]
    exact mt_zero x hx
theorem X1_holds_10_v {s : ST} {A : Nat → Nat} {k x : Nat} (hM : MB10 s A k) (hx : x < 256) : X1_holds_10 s (nI x) = some (bI (mt A k x)) := by
  unfold X1_holds_10
  rw [l6, l63, nx_shr (by omega) (by omega), nx_and, show x &&& 63 = x % 64 from Nat.and_two_pow_sub_one_eq_mod x 6, show x / 2 ^ 6 = x / 64 from rfl, inb_t (show x / 64 < 4 by omega) (by omega), gd_t, nI_clamp (show x / 64 < 2 ^ 31 by omega), lb_test (Nat.mod_lt x (by omega)) (sh_far _ (Nat.mod_lt x (by omega)))]
  rw [show lb (s.2.2 0 (x / 64)) (x % 64) = BT (s.2.2 0) x from rfl, hM x hx]
  cases mt A k x <;> rfl
