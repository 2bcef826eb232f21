/-! PURE 5: what the small methods answer -/
/-- v is one of 0 .. n less 1 -/
def inR (v : Int32) (n : Nat) : Bool := decide (0 ≤ v.toInt ∧ v.toInt < n)
theorem inR_t {v : Int32} {n : Nat} (h : inR v n = true) (hn : n < 2 ^ 31) : ∃ i, i < n ∧ v = nI i := by
  have h := of_decide_eq_true h
  refine ⟨v.toInt.toNat, by omega, Int32.toInt_inj.mp ?_⟩
  rw [nI_toInt (by omega)]
  omega
theorem inR_nI {i n : Nat} (hi : i < 2 ^ 31) : inR (nI i) n = decide (i < n) := by
  unfold inR
  rw [nI_toInt hi]
  congr 1
  exact propext ⟨fun h => by omega, fun h => by omega⟩
theorem lt0_iff (v : Int32) : (v < 0) = (v.toInt < 0) := propext (by rw [Int32.lt_iff_toInt_lt, Int32.toInt_zero])
theorem nle_iff {n : Nat} (hn : n < 2 ^ 31) (v : Int32) : (nI n ≤ v) = ((n : Int) ≤ v.toInt) := propext (by rw [Int32.le_iff_toInt_le, nI_toInt hn])
theorem nlt_iff {n : Nat} (hn : n < 2 ^ 31) (v : Int32) : (nI n < v) = ((n : Int) < v.toInt) := propext (by rw [Int32.lt_iff_toInt_lt, nI_toInt hn])
theorem len_iff {n : Nat} (hn : n < 2 ^ 31) (v : Int32) : (v ≤ nI n) = (v.toInt ≤ (n : Int)) := propext (by rw [Int32.le_iff_toInt_le, nI_toInt hn])
theorem ltn_iff {n : Nat} (hn : n < 2 ^ 31) (v : Int32) : (v < nI n) = (v.toInt < (n : Int)) := propext (by rw [Int32.lt_iff_toInt_lt, nI_toInt hn])
theorem nI_m1 {n : Nat} (h : 0 < n) : nI n - (1 : Int32) = nI (n - 1) := by
  have q := pk_sub (a := n) (b := 1) h
  exact q
theorem bI_ite (c : Prop) [Decidable c] : (if c then some (1 : Int32) else some (0 : Int32)) = some (bI (decide c)) := by
  by_cases h : c <;> simp [h, bI]
/-- 'out of 0 .. n less 1' asked the class's way -/
theorem two_ifs {v : Int32} {n : Nat} (hn : n < 2 ^ 31) : (if v < 0 then some (0 : Int32) else if nI n ≤ v then some (0 : Int32) else some (1 : Int32)) = some (bI (inR v n)) := by
  unfold inR
  simp only [lt0_iff, nle_iff hn]
  by_cases h1 : v.toInt < 0
  · rw [if_pos h1, decide_eq_false (by omega)]; rfl
  · rw [if_neg h1]
    by_cases h2 : (n : Int) ≤ v.toInt
    · rw [if_pos h2, decide_eq_false (by omega)]; rfl
    · rw [if_neg h2, decide_eq_true (by omega)]; rfl
theorem X6_isSide_v (v : Int32) : X6_isSide v = some (bI (inR v 4)) := two_ifs (n := 4) (by omega)
theorem X6_isRow_v (v : Int32) : X6_isRow v = some (bI (inR v 3)) := two_ifs (n := 3) (by omega)
theorem X6_isEither_v (v : Int32) : X6_isEither v = some (bI (inR v 2)) := by
  unfold X6_isEither
  by_cases h0 : v = 0
  · subst h0; rfl
  · rw [if_neg h0]
    by_cases h1 : v = (1 : Int32)
    · subst h1; rfl
    · rw [if_neg h1]
      have : inR v 2 = false := by
        cases q : inR v 2 with
        | false => rfl
        | true =>
          obtain ⟨i, hi, rfl⟩ := inR_t q (by omega)
          have : i = 0 ∨ i = 1 := by omega
          rcases this with rfl | rfl
          · exact absurd rfl h0
          · exact absurd rfl h1
      rw [this]; rfl
theorem X4_isPost_v {s : ST} {n : Nat} (h : s.1 1 = nI n) (hn : n ≤ 8) (v : Int32) : X4_isPost s v = some (bI (inR v n)) := by
  unfold X4_isPost
  rw [h]
  exact two_ifs (by omega)
theorem X4_isNumber_v {s : ST} {k : Nat} (h : s.1 3 = nI k) (hn : k ≤ 8) (v : Int32) : X4_isNumber s v = some (bI (inR v k)) := by
  unfold X4_isNumber
  rw [h]
  exact two_ifs (by omega)
theorem all_val {n : Nat} (hn : n ≤ 8) : ((1 : Int32) <<< (nI n &&& 31)) - (1 : Int32) = nI (2 ^ n - 1) := by
  rw [nx_shl1 (by omega), nI_m1 (Nat.two_pow_pos n)]
theorem X4_all_v {s : ST} {n : Nat} (h : s.1 1 = nI n) (hn : n ≤ 8) : X4_all s = some (nI (2 ^ n - 1)) := by
  unfold X4_all
  rw [h, all_val hn]
theorem X4_isSet_v {s : ST} {n : Nat} (h : s.1 1 = nI n) (hn : n ≤ 8) (v : Int32) : X4_isSet s v = some (bI (inR v (2 ^ n))) := by
  have p8 := pow8 hn
  have hp := Nat.two_pow_pos n
  unfold X4_isSet
  rw [X4_all_v h hn, bd_s]
  unfold inR
  simp only [lt0_iff, nlt_iff (show 2 ^ n - 1 < 2 ^ 31 by omega)]
  by_cases h1 : v.toInt < 0
  · rw [if_pos h1, decide_eq_false (by omega)]; rfl
  · rw [if_neg h1]
    by_cases h2 : ((2 ^ n - 1 : Nat) : Int) < v.toInt
    · rw [if_pos h2, decide_eq_false (by omega)]; rfl
    · rw [if_neg h2, decide_eq_true (by omega)]; rfl
theorem has_if {x e : Nat} (hx : x < 2 ^ 31) (he : e < 32) : (if ((nI x >>> (nI e &&& 31)) &&& (1 : Int32)) = (1 : Int32) then some (1 : Int32) else some (0 : Int32)) = some (bI (x.testBit e)) := by
  rw [has_val hx he]
  cases x.testBit e <;> rfl
theorem X6_has_v {x e : Nat} (hx : x < 2 ^ 31) (he : e < 32) : X6_has (nI x) (nI e) = some (bI (x.testBit e)) := has_if hx he
theorem X7_has_v {x e : Nat} (hx : x < 2 ^ 31) (he : e < 32) : X7_has (nI x) (nI e) = some (bI (x.testBit e)) := has_if hx he
theorem J6_bit_all : ∀ x, x < 256 → J6_bitCount (nI x) = some (nI (pc x)) := by decide +kernel
theorem X7_in_v {v : Int32} {a b : Nat} (ha : a < 2 ^ 31) (hb : b < 2 ^ 31) : X7_in v (nI a) (nI b) = some (bI (decide ((a : Int) ≤ v.toInt ∧ v.toInt ≤ b))) := by
  unfold X7_in
  simp only [ltn_iff ha, nlt_iff hb]
  by_cases h1 : v.toInt < (a : Int)
  · rw [if_pos h1, decide_eq_false (by omega)]; rfl
  · rw [if_neg h1]
    by_cases h2 : (b : Int) < v.toInt
    · rw [if_pos h2, decide_eq_false (by omega)]; rfl
    · rw [if_neg h2, decide_eq_true (by omega)]; rfl
theorem X7_inR {v : Int32} {n : Nat} (hn : 0 < n) (h : n < 2 ^ 31) : X7_in v (0 : Int32) (nI (n - 1)) = some (bI (inR v n)) := by
  have q := X7_in_v (v := v) (a := 0) (b := n - 1) (by omega) (by omega)
  refine Eq.trans q ?_
  unfold inR
  congr 2
  exact decide_eq_decide.mpr ⟨fun h => by omega, fun h => by omega⟩
theorem gd_bz (b : Bool) {α : Type} {k : Option α} : gd (bz (bI b)) k = k := by rw [bz_bI]; rfl
theorem X7_isPost_v {s : ST} {n : Nat} (h : s.1 0 = nI n) (h1 : 1 ≤ n) (hn : n ≤ 8) (v : Int32) : X7_isPost s v = some (bI (inR v n)) := by
  unfold X7_isPost
  rw [h, nI_m1 (by omega), X7_inR (by omega) (by omega), bd_s, gd_bz]
theorem X7_all_v {s : ST} {n : Nat} (h : s.1 0 = nI n) (hn : n ≤ 8) : X7_all s = some (nI (2 ^ n - 1)) := by
  unfold X7_all
  rw [h, all_val hn]
theorem X7_isSet_v {s : ST} {n : Nat} (h : s.1 0 = nI n) (hn : n ≤ 8) (v : Int32) : X7_isSet s v = some (bI (inR v (2 ^ n))) := by
  have p8 := pow8 hn
  have hp := Nat.two_pow_pos n
  unfold X7_isSet
  rw [X7_all_v h hn, bd_s, X7_inR hp (by omega), bd_s, gd_bz]
theorem X7_isSide_v (v : Int32) : X7_isSide v = some (bI (inR v 4)) := by
  unfold X7_isSide
  rw [show (3 : Int32) = nI (4 - 1) from rfl, X7_inR (by omega) (by omega), bd_s, gd_bz]
theorem X7_isRow_v (v : Int32) : X7_isRow v = some (bI (inR v 3)) := by
  unfold X7_isRow
  rw [show (2 : Int32) = nI (3 - 1) from rfl, X7_inR (by omega) (by omega), bd_s, gd_bz]
theorem X7_isNumber_v {s : ST} {k : Nat} (h : s.1 2 = nI k) (hn : k ≤ 8) (v : Int32) : X7_isNumber s v = some (bI (inR v k)) := by
  unfold X7_isNumber
  rw [h]
  by_cases hk : 0 < k
  · rw [nI_m1 hk, X7_inR hk (by omega), bd_s, gd_bz]
  · rw [show k = 0 by omega]
    have e : inR v 0 = false := by
      unfold inR
      exact decide_eq_false (by omega)
    rw [e]
    have : X7_in v (0 : Int32) (nI 0 - (1 : Int32)) = some (0 : Int32) := by
      unfold X7_in
      rw [show nI 0 - (1 : Int32) = -1 from by decide]
      by_cases h0 : v < 0
      · rw [if_pos h0]
      · rw [if_neg h0]
        have : (-1 : Int32) < v := by
          rw [Int32.lt_iff_toInt_lt]
          rw [lt0_iff] at h0
          have : (-1 : Int32).toInt = -1 := by decide
          omega
        rw [if_pos this]
    rw [this]
    rfl
