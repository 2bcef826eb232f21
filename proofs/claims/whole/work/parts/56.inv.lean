/-! PURE 11: what both sides keep in common from call to call -/
def wd (k : Nat) : List Int32 := tx_byt.getD k []
def num (x : Nat) : List Int32 := (32 : Int32) :: (if x < 10 then [nI (48 + x)] else [nI (48 + x / 10), nI (48 + x % 10)])
/-- the parts of a list for 0 .. n less 1, put together -/
def cat (f : Nat → List Int32) : Nat → List Int32
  | 0 => []
  | n + 1 => cat f n ++ f n
def opt (b : Bool) (l : List Int32) : List Int32 := if b = true then l else []
/-- the description of a table -/
def spl (t : TB) : List Int32 :=
  wd 0 ++ num (tN t) ++ cat (fun i => cat (fun j => opt ((tR t i).testBit j) (wd 6 ++ num i ++ num j)) (tN t)) (tN t)
    ++ cat (fun i => opt ((tT t).testBit i) (wd 7 ++ wd 3 ++ num i)) 8
    ++ cat (fun j => wd 8 ++ cat (fun i => opt ((tF t j).testBit i) (num i)) 8) (tK t)
    ++ cat (fun i => opt (decide (tW t i ≠ 0)) (wd 9 ++ num i ++ num (tW t i))) (tN t)
def SpellOK (s : ST) (t : TB) : Prop := s.1 18 = nI (spl t).length ∧ ∀ i, i < (spl t).length → s.2.1 16 i = (spl t).getD i 0
def SPc (s : ST) (t : TB) (ch : Nat) : Prop := s.1 19 = -1 ∨ ∃ m, s.1 19 = nI m ∧ m ≤ ch ∧ (m = ch → SpellOK s t)
def CHok (k : Nat) (s : ST) (t : TB) : Prop := ∃ ch, ch ≤ 300 * k ∧ s.1 4 = nI ch ∧ RKc s t ch ∧ SPc s t ch
def MI (s : ST) (t : TB) : Prop := s.2.1 15 24 = nI (tN t) ∧ s.2.1 15 25 = nI (tT t) ∧ s.2.1 15 26 = nI (tK t) ∧ (∀ i, i < 8 → s.2.1 15 i = nI (tR t i)) ∧ (∀ i, i < 8 → s.2.1 15 (8 + i) = nI (tW t i)) ∧ ∀ j, j < tK t → s.2.1 15 (16 + j) = nI (tF t j)
def IMok (s u : ST) : Prop := (s.1 0 = 0 ∧ u.1 12 = 0) ∨ (s.1 0 = 1 ∧ u.1 12 = 1 ∧ ∃ t, OKT t ∧ XT s 5 3 t ∧ MI u t)
def TPok (s u : ST) : Prop := ∃ (L : Nat) (c : Nat → Nat), L ≤ 120 ∧ s.1 11 = nI L ∧ u.1 3 = nI L ∧ ∀ i, i < L → s.2.1 15 i = nI (c i) ∧ u.2.1 6 i = nI (c i) ∧ 32 ≤ c i ∧ c i ≤ 126
def RWok (s u : ST) : Prop := ∀ r, r < 3 → s.2.1 14 r = u.2.1 3 r ∧ (s.2.1 14 r = -1 ∨ ∃ z, z ≤ 40 ∧ s.2.1 14 r = nI z ∧ ∀ j, j < z → s.2.1 (11 + r) j = u.2.1 4 (40 * r + j))
def Inv (k : Nat) (s u : ST) : Prop := ∃ t, OKT t ∧ XT s 1 0 t ∧ XT u 0 0 t ∧ CHok k s t ∧ IMok s u ∧ TPok s u ∧ RWok s u
theorem Inv.mono {k : Nat} {s u : ST} (h : Inv k s u) : Inv (k + 1) s u := by
  obtain ⟨t, h1, h2, h3, ⟨ch, c1, c2⟩, h5⟩ := h
  exact ⟨t, h1, h2, h3, ⟨ch, by omega, c2⟩, h5⟩
/-- the class's scratch: ranks, and what a choice needs -/
def ScX (s s' : ST) : Prop := (∀ c, c ≠ 9 → c ≠ 10 ∧ c < 20 → s'.1 c = s.1 c) ∧ ∀ c, c < 6 ∨ 10 < c → s'.2.1 c = s.2.1 c
theorem ScX.rf (s : ST) : ScX s s := ⟨fun _ _ _ => rfl, fun _ _ => rfl⟩
theorem ScX.tr {a b c : ST} (h : ScX a b) (g : ScX b c) : ScX a c := ⟨fun j h1 h2 => (g.1 j h1 h2).trans (h.1 j h1 h2), fun j h1 => (g.2 j h1).trans (h.2 j h1)⟩
theorem ScR.x {s s' : ST} (h : ScR s s') : ScX s s' := ⟨fun c h1 h2 => h.1 c ⟨h1, h2.2⟩, fun c hc => h.2 c (by omega) (by omega)⟩
theorem XT.scX {s s' : ST} {t : TB} {p a : Nat} (h : XT s p a t) (q : ScX s s') (hp : p ≤ 6) (ha : a ≤ 3) : XT s' p a t := by
  obtain ⟨h1, h2, h3, h4, h5, h6⟩ := h
  refine ⟨?_, ?_, ?_, ?_, ?_, ?_⟩
  · rw [q.1 p (by omega) (by omega)]; exact h1
  · rw [q.1 _ (by omega) (by omega)]; exact h2
  · rw [q.1 _ (by omega) (by omega)]; exact h3
  · rw [q.2 a (by omega)]; exact h4
  · rw [q.2 _ (by omega)]; exact h5
  · rw [q.2 _ (by omega)]; exact h6
theorem SPc.scX {s s' : ST} {t : TB} {ch : Nat} (h : SPc s t ch) (q : ScX s s') : SPc s' t ch := by
  unfold SPc SpellOK at h ⊢
  rw [q.1 19 (by omega) (by omega), q.1 18 (by omega) (by omega), q.2 16 (by omega)]
  exact h
theorem MI.scM {u u' : ST} {t : TB} (h : MI u t) (q : ScM u u') : MI u' t := by
  unfold MI at h ⊢
  rw [q.2 15 (by omega)]
  exact h
theorem IMok.scX {s s' u u' : ST} (h : IMok s u) (q : ScX s s') (g : ScM u u') : IMok s' u' := by
  unfold IMok at h ⊢
  rw [q.1 0 (by omega) (by omega), g.1]
  rcases h with h | ⟨h1, h2, t, h3, h4, h5⟩
  · exact Or.inl h
  · exact Or.inr ⟨h1, h2, t, h3, h4.scX q (by omega) (by omega), h5.scM g⟩
theorem TPok.scX {s s' u u' : ST} (h : TPok s u) (q : ScX s s') (g : ScM u u') : TPok s' u' := by
  unfold TPok at h ⊢
  rw [q.1 11 (by omega) (by omega), g.1, q.2 15 (by omega), g.2 6 (by omega)]
  exact h
theorem RWok.scX {s s' u u' : ST} (h : RWok s u) (q : ScX s s') (g : ScM u u') : RWok s' u' := by
  intro r hr
  rw [q.2 14 (by omega), g.2 3 (by omega), q.2 _ (by omega), g.2 4 (by omega)]
  exact h r hr
/-- a call that changes scratch alone -/
theorem Inv.ask {k : Nat} {s s' u u' : ST} (h : Inv k s u) (q : ScX s s') (g : ScM u u') (hr : ∀ t ch, OKT t → XT s 1 0 t → RKc s t ch → s.1 4 = nI ch → ch ≤ 300 * k → RKc s' t ch) : Inv (k + 1) s' u' := by
  obtain ⟨t, h1, h2, h3, ⟨ch, c1, c2, c3, c4⟩, h5, h6, h7⟩ := h
  refine ⟨t, h1, h2.scX q (by omega) (by omega), h3.scM g (by omega), ⟨ch, by omega, ?_, hr t ch h1 h2 c3 c2 c1, c4.scX q⟩, h5.scX q g, h6.scX q g, h7.scX q g⟩
  rw [q.1 4 (by omega) (by omega)]; exact c2
/-- the ranks' side of a call: what is fresh on both sides -/
theorem Inv.sides {k N : Nat} {s u : ST} (h : Inv k s u) (hk : k < 512) (hN : 300 < N) : ∃ t s', OKT t ∧ XT s 1 0 t ∧ XT u 0 0 t ∧ X6_freshRanks N s = some s' ∧ RanksOK s' t ∧ XT s' 1 0 t ∧ ScR s s' ∧ (∀ u', ScM u u' → Inv (k + 1) s' u') := by
  obtain ⟨t, h1, h2, h3, ⟨ch, c1, c2, c3, c4⟩, h5, h6, h7⟩ := h
  obtain ⟨s', e, r, q, rk, z, x⟩ := X6_freshRanks_v (k := N) hN h2 h1 c2 (by omega) c3
  refine ⟨t, s', h1, h2, h3, e, r, x, q, fun u' g => ⟨t, h1, x, h3.scM g (by omega), ⟨ch, by omega, z, rk, c4.scX q.x⟩, h5.scX q.x g, h6.scX q.x g, h7.scX q.x g⟩⟩
theorem Inv.tab {k : Nat} {s u : ST} (h : Inv k s u) : ∃ t, OKT t ∧ XT s 1 0 t ∧ XT u 0 0 t := by
  obtain ⟨t, h1, h2, h3, -⟩ := h
  exact ⟨t, h1, h2, h3⟩
theorem OKT.p8 {t : TB} (h : OKT t) : 2 ^ tN t ≤ 256 := pow8 h.1.2
theorem isSet_2 {s u : ST} {t : TB} (hO : OKT t) (hX : XT s 1 0 t) (hU : XT u 0 0 t) (v : Int32) : X4_isSet s v = some (bI (inR v (2 ^ tN t))) ∧ X7_isSet u v = some (bI (inR v (2 ^ tN t))) := ⟨X4_isSet_v hX.1 hO.1.2 v, X7_isSet_v hU.1 hO.1.2 v⟩
theorem isPost_2 {s u : ST} {t : TB} (hO : OKT t) (hX : XT s 1 0 t) (hU : XT u 0 0 t) (v : Int32) : X4_isPost s v = some (bI (inR v (tN t))) ∧ X7_isPost u v = some (bI (inR v (tN t))) := ⟨X4_isPost_v hX.1 hO.1.2 v, X7_isPost_v hU.1 hO.1.1 hO.1.2 v⟩
theorem isNumber_2 {s u : ST} {t : TB} (hO : OKT t) (hX : XT s 1 0 t) (hU : XT u 0 0 t) (v : Int32) : X4_isNumber s v = some (bI (inR v (tK t))) ∧ X7_isNumber u v = some (bI (inR v (tK t))) := ⟨X4_isNumber_v hX.2.2.1 hO.2.2.1 v, X7_isNumber_v hU.2.2.1 hO.2.2.1 v⟩
/-- a guard: the same on both sides -/
theorem bc {b : Bool} {P : Prop} (h0 : b = false → P) (h1 : b = true → P) : P := by
  cases b with
  | false => exact h0 rfl
  | true => exact h1 rfl
theorem case_rank {k N : Nat} {s u : ST} (h : Inv k s u) (hk : k < 512) (hN : 300 < N) (v1 v2 : Int32) : ∃ r s' u', X6_rank N s v1 v2 = some (r, s') ∧ X7_rank N u v1 v2 = some (r, u') ∧ Inv (k + 1) s' u' := by
  obtain ⟨t, s', hO, hX, hU, e, hR, hX', hSc, hI⟩ := h.sides hk hN
  have p8 := hO.p8
  unfold X6_rank X7_rank
  rw [X6_isSide_v, X7_isSide_v, bd_s, bd_s]
  refine bc (b := inR v1 4) (fun q => ⟨_, _, _, by rw [ib_f q], by rw [ib_f q], h.mono⟩) fun q => ?_
  rw [ib_t q, ib_t q, (isSet_2 hO hX hU v2).1, (isSet_2 hO hX hU v2).2, bd_s, bd_s]
  refine bc (b := inR v2 (2 ^ tN t)) (fun q => ⟨_, _, _, by rw [ib_f q], by rw [ib_f q], h.mono⟩) fun q2 => ?_
  obtain ⟨w, hw, rfl⟩ := inR_t q (by omega)
  obtain ⟨x, hx, rfl⟩ := inR_t q2 (by omega)
  obtain ⟨u', eu, su, lu⟩ := X7_lay_v hN hU hO hw
  refine ⟨_, _, _, by rw [ib_t q2, e, bd_s, X2_of_v hR hX'.1 hO hw hx, bd_s], ?_, hI u' su⟩
  rw [ib_t q2, eu, bd_s, inb_t (show x < 256 by omega) (by omega), gd_t, nI_clamp (by omega), (lu x hx).1]
theorem X2_isFree_v {s : ST} {t : TB} {w x : Nat} (hR : RanksOK s t) (hn : s.1 1 = nI (tN t)) (hO : OKT t) (hw : w < 4) (hx : x < 2 ^ tN t) : X2_isFree s (nI w) (nI x) = some (bI (isFr (rw4 t w) x)) := by
  have p8 := hO.p8
  have a := rw4_le hO w hx
  have b := pc_le8 x
  unfold X2_isFree
  rw [X2_of_v hR hn hO hw hx, bd_s, J6_bit_all x (by omega), bd_s]
  by_cases q : rw4 t w x = pc x
  · rw [if_pos (by rw [q]), isFr_t q]; rfl
  · rw [if_neg (by rw [nI_inj (by omega) (by omega)]; exact q), isFr_f q]; rfl
theorem X2_isBase_v {s : ST} {t : TB} {w x : Nat} (hR : RanksOK s t) (hn : s.1 1 = nI (tN t)) (hO : OKT t) (hw : w < 4) (hx : x < 2 ^ tN t) : X2_isBase s (nI w) (nI x) = some (bI (isBs (tN t) (rw4 t w) x)) := by
  have p8 := hO.p8
  have hp := Nat.two_pow_pos (tN t)
  have hA : 2 ^ tN t - 1 < 2 ^ tN t := by omega
  have a := rw4_le hO w hx
  have c := rw4_le hO w hA
  unfold X2_isBase
  rw [X2_isFree_v hR hn hO hw hx, bd_s]
  unfold isBs
  by_cases q : isFr (rw4 t w) x = true
  · have q' := isFr_iff.mp q
    rw [ib_t q, X2_of_v hR hn hO hw hx, bd_s, hR.2.2.2.2, X2_of_v hR hn hO hw hA, bd_s, q]
    by_cases g : rw4 t w x = rw4 t w (2 ^ tN t - 1)
    · rw [if_pos (by rw [g]), decide_eq_true (by omega)]; rfl
    · rw [if_neg (by rw [nI_inj (by omega) (by omega)]; exact g), decide_eq_false (by omega)]; rfl
  · have q : isFr (rw4 t w) x = false := by simpa using q
    rw [ib_f q, q]; rfl
theorem case_free {k N : Nat} {s u : ST} (h : Inv k s u) (hk : k < 512) (hN : 300 < N) (v1 v2 : Int32) : ∃ r s' u', X6_free N s v1 v2 = some (r, s') ∧ X7_free N u v1 v2 = some (r, u') ∧ Inv (k + 1) s' u' := by
  obtain ⟨t, s', hO, hX, hU, e, hR, hX', hSc, hI⟩ := h.sides hk hN
  have p8 := hO.p8
  unfold X6_free X7_free
  rw [X6_isSide_v, X7_isSide_v, bd_s, bd_s]
  refine bc (b := inR v1 4) (fun q => ⟨_, _, _, by rw [ib_f q], by rw [ib_f q], h.mono⟩) fun q => ?_
  rw [ib_t q, ib_t q, (isSet_2 hO hX hU v2).1, (isSet_2 hO hX hU v2).2, bd_s, bd_s]
  refine bc (b := inR v2 (2 ^ tN t)) (fun q => ⟨_, _, _, by rw [ib_f q], by rw [ib_f q], h.mono⟩) fun q2 => ?_
  obtain ⟨w, hw, rfl⟩ := inR_t q (by omega)
  obtain ⟨x, hx, rfl⟩ := inR_t q2 (by omega)
  obtain ⟨u', eu, su, lu⟩ := X7_lay_v hN hU hO hw
  rw [ib_t q2, ib_t q2, e, bd_s, X2_isFree_v hR hX'.1 hO hw hx, bd_s, eu, bd_s, inb_t (show x < 256 by omega) (by omega), gd_t, nI_clamp (by omega), (lu x hx).2.1]
  exact bc (b := isFr (rw4 t w) x) (fun g => ⟨_, _, _, by rw [ib_f g], by rw [ib_f g], hI u' su⟩) (fun g => ⟨_, _, _, by rw [ib_t g], by rw [ib_t g], hI u' su⟩)
