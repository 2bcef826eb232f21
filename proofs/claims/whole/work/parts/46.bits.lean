/-! PURE 1: ints as numbers, sets of posts as the bits of numbers -/
theorem nx_and (a b : Nat) : nI a &&& nI b = nI (a &&& b) := by
  apply Int32.toBitVec_inj.1
  show BitVec.ofNat 32 a &&& BitVec.ofNat 32 b = BitVec.ofNat 32 (a &&& b)
  apply BitVec.eq_of_getLsbD_eq
  intro i hi
  simp [hi]
theorem nx_or (a b : Nat) : nI a ||| nI b = nI (a ||| b) := by
  apply Int32.toBitVec_inj.1
  show BitVec.ofNat 32 a ||| BitVec.ofNat 32 b = BitVec.ofNat 32 (a ||| b)
  apply BitVec.eq_of_getLsbD_eq
  intro i hi
  simp [hi]
theorem nx_xor (a b : Nat) : nI a ^^^ nI b = nI (a ^^^ b) := by
  apply Int32.toBitVec_inj.1
  show BitVec.ofNat 32 a ^^^ BitVec.ofNat 32 b = BitVec.ofNat 32 (a ^^^ b)
  apply BitVec.eq_of_getLsbD_eq
  intro i hi
  simp [hi]
/-- a without b -/
def dif (a b : Nat) : Nat := a ^^^ (a &&& b)
theorem dif_tb (a b i : Nat) : (dif a b).testBit i = (a.testBit i && !b.testBit i) := by
  unfold dif
  rw [Nat.testBit_xor, Nat.testBit_and]
  cases a.testBit i <;> cases b.testBit i <;> rfl
theorem nx_not (a b : Nat) : nI a &&& (nI b ^^^ (-1)) = nI (dif a b) := by
  apply Int32.toBitVec_inj.1
  show BitVec.ofNat 32 a &&& (BitVec.ofNat 32 b ^^^ BitVec.allOnes 32) = BitVec.ofNat 32 (dif a b)
  apply BitVec.eq_of_getLsbD_eq
  intro i hi
  simp only [BitVec.getLsbD_and, BitVec.getLsbD_xor, BitVec.getLsbD_allOnes, BitVec.getLsbD_ofNat, hi, decide_true, Bool.true_and, dif_tb]
  cases a.testBit i <;> cases b.testBit i <;> rfl
theorem sh_cnt : ∀ k, k < 32 → ((nI k &&& 31).toBitVec.smod 32).toNat = k := by decide +kernel
theorem nx_shl {a k : Nat} (hk : k < 32) (h : a * 2 ^ k < 2 ^ 32) : nI a <<< (nI k &&& 31) = nI (a * 2 ^ k) := pk_shlN _ k (sh_cnt k hk) h
theorem nx_shl1 {k : Nat} (hk : k < 31) : (1 : Int32) <<< (nI k &&& 31) = nI (2 ^ k) := by
  have h := nx_shl (a := 1) (k := k) (by omega) (by rw [Nat.one_mul]; exact Nat.pow_lt_pow_right (by omega) (by omega))
  rw [Nat.one_mul] at h
  exact h
theorem nx_shr {a k : Nat} (hk : k < 32) (h : a < 2 ^ 31) : nI a >>> (nI k &&& 31) = nI (a / 2 ^ k) := pk_shrN h _ k (sh_cnt k hk)
def bI (b : Bool) : Int32 := if b = true then 1 else 0
theorem bI_t : bI true = 1 := rfl
theorem bI_f : bI false = 0 := rfl
theorem bI_0 (b : Bool) : (bI b = 0) = (b = false) := by cases b <;> simp [bI]
theorem bI_1 (b : Bool) : (bI b = 1) = (b = true) := by cases b <;> simp [bI]
theorem bz_bI (b : Bool) : bz (bI b) = true := by cases b <;> rfl
theorem inb_t {i n : Nat} (h : i < n) (hn : n < 2 ^ 31) : inb (nI i) n = true := by
  have q := vp_in_nI h hn
  unfold vp_in at q
  exact decide_eq_true q
theorem gd_t {α : Type} {k : Option α} : gd true k = k := rfl
theorem nm_u {α β : Type} {e : α} {k : α → β} : nm e k = k e := rfl
theorem bd_s {α β : Type} {v : α} {k : α → Option β} : bd (some v) k = k v := rfl
theorem bd2_s {α β γ : Type} {v : α} {w : β} {k : α → β → Option γ} : bd2 (some (v, w)) k = k v w := rfl
theorem tb_bit (x e : Nat) : x / 2 ^ e % 2 = (x.testBit e).toNat := by
  rw [Nat.testBit_eq_decide_div_mod_eq]
  rcases Nat.mod_two_eq_zero_or_one (x / 2 ^ e) with h | h <;> simp [h]
theorem has_val {x e : Nat} (hx : x < 2 ^ 31) (he : e < 32) : ((nI x >>> (nI e &&& 31)) &&& (1 : Int32)) = bI (x.testBit e) := by
  rw [nx_shr he hx, show (1 : Int32) = nI 1 from rfl, nx_and, Nat.and_one_is_mod, tb_bit]
  cases x.testBit e <;> rfl
theorem nI_inj {a b : Nat} (ha : a < 2 ^ 31) (hb : b < 2 ^ 31) : (nI a = nI b) = (a = b) := propext (nI_eq ha hb)
theorem nI_lep {a b : Nat} (ha : a < 2 ^ 31) (hb : b < 2 ^ 31) : (nI a ≤ nI b) = (a ≤ b) := propext (nI_leI ha hb)
theorem nI_ltp {a b : Nat} (ha : a < 2 ^ 31) (hb : b < 2 ^ 31) : (nI a < nI b) = (a < b) := propext (nI_ltI ha hb)
theorem nI_eq0 {a : Nat} (ha : a < 2 ^ 31) : (nI a = 0) = (a = 0) := nI_inj (b := 0) ha (by omega)
/-- a first place -/
theorem first_of {p : Nat → Prop} [DecidablePred p] {N : Nat} (h : ∃ i, i < N ∧ p i) : ∃ i, i < N ∧ p i ∧ ∀ j, j < i → ¬ p j := by
  obtain ⟨i, hi, hp⟩ := h
  obtain ⟨k, hk, hm⟩ := pk_least (fun i => p i) ⟨i, hp⟩
  refine ⟨k, ?_, hk, hm⟩
  rcases Nat.lt_or_ge i k with g | g
  · exact absurd hp (hm i g)
  · omega
/-- a loop that counts up: f says where it stands at each turn -/
theorem loopDet {T A : Type} {F : Nat → Nat → A → Option T} {t : T} (N : Nat) (f : Nat → A) (hs : ∀ k i, i < N → F (k + 1) i (f i) = F k (i + 1) (f (i + 1))) (hx : ∀ k, F (k + 1) N (f N) = some t) : ∀ d i k, i + d = N → d < k → F k i (f i) = some t := by
  intro d
  induction d with
  | zero =>
    intro i k h1 h2
    obtain ⟨k, rfl⟩ : ∃ j, k = j + 1 := ⟨k - 1, by omega⟩
    rw [show i = N by omega]
    exact hx k
  | succ d ih =>
    intro i k h1 h2
    obtain ⟨k, rfl⟩ : ∃ j, k = j + 1 := ⟨k - 1, by omega⟩
    rw [hs k i (by omega)]
    exact ih (i + 1) k (by omega) (by omega)
theorem loop0 {T A : Type} {F : Nat → Nat → A → Option T} {t : T} (N : Nat) (f : Nat → A) (hs : ∀ k i, i < N → F (k + 1) i (f i) = F k (i + 1) (f (i + 1))) (hx : ∀ k, F (k + 1) N (f N) = some t) {k : Nat} (hk : N < k) : F k 0 (f 0) = some t := loopDet N f hs hx N 0 k (by omega) hk
/-- the same from another start -/
theorem loopFrom {T A : Type} {F : Nat → Nat → A → Option T} {t : T} (a N : Nat) (h : a ≤ N) (f : Nat → A) (hs : ∀ k i, a ≤ i → i < N → F (k + 1) i (f i) = F k (i + 1) (f (i + 1))) (hx : ∀ k, F (k + 1) N (f N) = some t) {k : Nat} (hk : N - a < k) : F k a (f a) = some t := by
  have := loopDet (F := fun k i => F k (a + i)) (N - a) (fun i => f (a + i)) (fun k i hi => hs k (a + i) (by omega) (by omega)) (fun k => by have := hx k; rw [show a + (N - a) = N by omega]; exact this) (N - a) 0 k (by omega) hk
  exact this
