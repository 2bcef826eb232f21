/-! PURE 17: calls that change the table -/
theorem XT.cg {s s' : ST} {t : TB} {p a : Nat} (h : XT s p a t) (e1 : s'.1 p = s.1 p) (e2 : s'.1 (p + 1) = s.1 (p + 1)) (e3 : s'.1 (p + 2) = s.1 (p + 2)) (e4 : s'.2.1 a = s.2.1 a) (e5 : s'.2.1 (a + 1) = s.2.1 (a + 1)) (e6 : s'.2.1 (a + 2) = s.2.1 (a + 2)) : XT s' p a t := by
  unfold XT at h ⊢
  rw [e1, e2, e3, e4, e5, e6]
  exact h
theorem MI.cg {u u' : ST} {t : TB} (h : MI u t) (e : u'.2.1 15 = u.2.1 15) : MI u' t := by
  unfold MI at h ⊢
  rw [e]
  exact h
theorem IMok.cg {s s' u u' : ST} (h : IMok s u) (e0 : s'.1 0 = s.1 0) (e5 : s'.1 5 = s.1 5) (e6 : s'.1 6 = s.1 6) (e7 : s'.1 7 = s.1 7) (f3 : s'.2.1 3 = s.2.1 3) (f4 : s'.2.1 4 = s.2.1 4) (f5 : s'.2.1 5 = s.2.1 5) (g12 : u'.1 12 = u.1 12) (g15 : u'.2.1 15 = u.2.1 15) : IMok s' u' := by
  unfold IMok at h ⊢
  rw [e0, g12]
  rcases h with h | ⟨h1, h2, t, h3, h4, h5⟩
  · exact Or.inl h
  · exact Or.inr ⟨h1, h2, t, h3, h4.cg e5 e6 e7 f3 f4 f5, h5.cg g15⟩
theorem TPok.cg {s s' u u' : ST} (h : TPok s u) (e : s'.1 11 = s.1 11) (f : s'.2.1 15 = s.2.1 15) (g : u'.1 3 = u.1 3) (g' : u'.2.1 6 = u.2.1 6) : TPok s' u' := by
  unfold TPok at h ⊢
  rw [e, f, g, g']
  exact h
theorem RWok.cg {s s' u u' : ST} (h : RWok s u) (e : s'.2.1 14 = s.2.1 14) (e0 : s'.2.1 11 = s.2.1 11) (e1 : s'.2.1 12 = s.2.1 12) (e2 : s'.2.1 13 = s.2.1 13) (g : u'.2.1 3 = u.2.1 3) (g' : u'.2.1 4 = u.2.1 4) : RWok s' u' := by
  intro r hr
  rw [e, g, g']
  have : s'.2.1 (11 + r) = s.2.1 (11 + r) := by
    have : r = 0 ∨ r = 1 ∨ r = 2 := by omega
    rcases this with rfl | rfl | rfl
    · exact e0
    · exact e1
    · exact e2
  rw [this]
  exact h r hr
theorem CHok.cg {k : Nat} {s s' : ST} {t : TB} (h : CHok k s t) (e4 : s'.1 4 = s.1 4) (e9 : s'.1 9 = s.1 9) (e18 : s'.1 18 = s.1 18) (e19 : s'.1 19 = s.1 19) (e20 : s'.1 20 = s.1 20) (e21 : s'.1 21 = s.1 21) (f6 : s'.2.1 6 = s.2.1 6) (f7 : s'.2.1 7 = s.2.1 7) (f16 : s'.2.1 16 = s.2.1 16) (g : s'.2.2 0 = s.2.2 0) : CHok (k + 1) s' t := by
  obtain ⟨ch, c1, c2, c3, c4⟩ := h
  refine ⟨ch, by omega, by rw [e4]; exact c2, ?_, ?_⟩
  · unfold RKc RanksOK MB10 at c3 ⊢
    rw [e9, f6, f7, g, e20, e21]
    exact c3
  · unfold SPc SpellOK at c4 ⊢
    rw [e18, e19, f16]
    exact c4
/-- the class's state outside the table and scratch; the reference's -/
def KpX (s s' : ST) : Prop := (∀ c, c = 0 ∨ (4 < c ∧ c < 9) ∨ (17 < c ∧ c < 20) → s'.1 c = s.1 c) ∧ ∀ c, (2 < c ∧ c < 6) ∨ (10 < c ∧ c < 15) → s'.2.1 c = s.2.1 c
def KpM (u u' : ST) : Prop := u'.1 12 = u.1 12 ∧ u'.2.1 3 = u.2.1 3 ∧ u'.2.1 4 = u.2.1 4 ∧ u'.2.1 15 = u.2.1 15
theorem Inv.mut {k d : Nat} {s s' u u' : ST} {t' : TB} (h : Inv k s u) (hk : k < 512) (hO : OKT t') (hX : XT s' 1 0 t') (hU : XT u' 0 0 t') (q : KpX s s') (g : KpM u u') (h1 : 1 ≤ d) (h2 : d ≤ 300) (h4 : s'.1 4 = s.1 4 + nI d) (h9 : s'.1 9 = s.1 9 ∨ s'.1 9 = s.1 4) (hT : TPok s' u') : Inv (k + 1) s' u' := by
  obtain ⟨t, a1, a2, a3, ⟨ch, c1, c2, c3, c4⟩, a5, a6, a7⟩ := h
  obtain ⟨g1, g2, g3, g4⟩ := g
  refine ⟨t', hO, hX, hU, ⟨ch + d, by omega, ?_, ?_, ?_⟩, ?_, hT, ?_⟩
  · rw [h4, c2, nI_add]
  · rcases h9 with e | e
    · rcases c3 with c | ⟨m, m1, m2, -⟩
      · exact Or.inl (e.trans c)
      · exact Or.inr ⟨m, e.trans m1, by omega, fun z => by omega⟩
    · exact Or.inr ⟨ch, e.trans c2, by omega, fun z => by omega⟩
  · have e := q.1 19 (by omega)
    rcases c4 with c | ⟨m, m1, m2, -⟩
    · exact Or.inl (e.trans c)
    · exact Or.inr ⟨m, e.trans m1, by omega, fun z => by omega⟩
  · exact a5.cg (q.1 0 (by omega)) (q.1 5 (by omega)) (q.1 6 (by omega)) (q.1 7 (by omega)) (q.2 3 (by omega)) (q.2 4 (by omega)) (q.2 5 (by omega)) g1 g4
  · exact a7.cg (q.2 14 (by omega)) (q.2 11 (by omega)) (q.2 12 (by omega)) (q.2 13 (by omega)) g2 g3
theorem Inv.tape {k : Nat} {s u : ST} (h : Inv k s u) : TPok s u := by
  obtain ⟨t, -, -, -, -, -, a, -⟩ := h
  exact a
theorem nI_1r (x : Int32) : x + (1 : Int32) = x + nI 1 := rfl
/-- tables changed in one thing -/
def tbR (t : TB) (f : Nat → Nat) : TB := (tN t, tT t, tK t, f, tW t, tF t)
def tbT (t : TB) (x : Nat) : TB := (tN t, x, tK t, tR t, tW t, tF t)
def tbW (t : TB) (f : Nat → Nat) : TB := (tN t, tT t, tK t, tR t, f, tF t)
def tbF (t : TB) (k : Nat) (f : Nat → Nat) : TB := (tN t, tT t, k, tR t, tW t, f)
def up1 (f : Nat → Nat) (i x : Nat) : Nat → Nat := fun j => if j = i then x else f j
theorem up1_v {a : Nat → Int32} {f : Nat → Nat} {N i x : Nat} (h : ∀ j, j < N → a j = nI (f j)) : ∀ j, j < N → upd a i (nI x) j = nI (up1 f i x j) := fun j hj => by
  unfold upd up1
  by_cases e : j = i
  · rw [if_pos e, if_pos e]
  · rw [if_neg e, if_neg e]; exact h j hj
theorem two_0 {e : Nat} : (2 : Nat) ^ e ≠ 0 := by have := Nat.two_pow_pos e; omega
/-- posts -/
theorem begin_X {N m : Nat} {s : ST} (hN : 10 < N) : X4_begin N s (nI m) = some (sI (sA (sA (sI (sI (sI s 1 (nI m)) 2 (nI 0)) 3 (nI 0)) 0 (fl (s.2.1 0) (fun _ => nI 0) 8)) 1 (fl (s.2.1 1) (fun _ => nI 0) 8)) 4 (s.1 4 + nI 1)) := by
  unfold X4_begin
  simp only [nm_u]
  have h := loop0 (F := fun j i (z : ST) => X4_begin_L1 j (nI i) z) (t := sA (sA (sI (sI (sI s 1 (nI m)) 2 (nI 0)) 3 (nI 0)) 0 (fl (s.2.1 0) (fun _ => nI 0) 8)) 1 (fl (s.2.1 1) (fun _ => nI 0) 8)) 8 (fun i => sA (sA (sI (sI (sI s 1 (nI m)) 2 (nI 0)) 3 (nI 0)) 0 (fl (s.2.1 0) (fun _ => nI 0) i)) 1 (fl (s.2.1 1) (fun _ => nI 0) i)) (fun j i hi => by
      show X4_begin_L1_b (X4_begin_L1 j) (nI i) _ = _
      unfold X4_begin_L1_b
      rw [if_neg (by rw [l8, nI_lep (by omega) (by omega)]; omega), inb_t (show i < 8 by omega) (by omega), gd_t]
      simp only [nm_u, gd_t, nI_1, nI_clamp (show i < 2 ^ 31 by omega)]
      congr 1
      have e0 := fl_u (s.2.1 0) (fun _ => nI 0) i
      have e1 := fl_u (s.2.1 1) (fun _ => nI 0) i
      refine st_eq (fun _ => rfl) (fun c => ?_) (fun _ => rfl)
      rw [← e0, ← e1]
      simp only [st_AA]
      by_cases c1 : c = 1
      · subst c1; rfl
      · by_cases c0 : c = 0
        · subst c0; rfl
        · simp [c0, c1]) (fun j => by
      show X4_begin_L1_b (X4_begin_L1 j) (nI 8) _ = _
      unfold X4_begin_L1_b
      rw [if_pos (by rw [l8, nI_lep (by omega) (by omega)]; exact Nat.le_refl _)]) (k := N) (by omega)
  have z : sA (sA (sI (sI (sI s 1 (nI m)) 2 (nI 0)) 3 (nI 0)) 0 (fl (s.2.1 0) (fun _ => nI 0) 0)) 1 (fl (s.2.1 1) (fun _ => nI 0) 0) = sI (sI (sI s 1 (nI m)) 2 (nI 0)) 3 (nI 0) := by
    rw [fl_0, fl_0]
    refine st_eq (fun _ => rfl) (fun c => ?_) (fun _ => rfl)
    simp only [st_AA, st_IA]
    by_cases c1 : c = 1
    · subst c1; rfl
    · by_cases c0 : c = 0
      · subst c0; rfl
      · simp [c0, c1]
  rw [z] at h
  rw [l0, h, bd_s]
  rfl
theorem begin_M {N m : Nat} {s : ST} (hN : 10 < N) : X7_begins N s (nI m) = some (sA (sA (sI (sI (sI s 0 (nI m)) 1 (nI 0)) 2 (nI 0)) 0 (fl (s.2.1 0) (fun _ => nI 0) 8)) 1 (fl (s.2.1 1) (fun _ => nI 0) 8)) := by
  unfold X7_begins
  simp only [nm_u]
  have h := loop0 (F := fun j i (z : ST) => X7_begins_L1 j (nI i) z) (t := sA (sA (sI (sI (sI s 0 (nI m)) 1 (nI 0)) 2 (nI 0)) 0 (fl (s.2.1 0) (fun _ => nI 0) 8)) 1 (fl (s.2.1 1) (fun _ => nI 0) 8)) 8 (fun i => sA (sA (sI (sI (sI s 0 (nI m)) 1 (nI 0)) 2 (nI 0)) 0 (fl (s.2.1 0) (fun _ => nI 0) i)) 1 (fl (s.2.1 1) (fun _ => nI 0) i)) (fun j i hi => by
      show X7_begins_L1_b (X7_begins_L1 j) (nI i) _ = _
      unfold X7_begins_L1_b
      rw [if_neg (by rw [l8, nI_lep (by omega) (by omega)]; omega), inb_t (show i < 8 by omega) (by omega), gd_t]
      simp only [nm_u, gd_t, nI_1, nI_clamp (show i < 2 ^ 31 by omega)]
      congr 1
      have e0 := fl_u (s.2.1 0) (fun _ => nI 0) i
      have e1 := fl_u (s.2.1 1) (fun _ => nI 0) i
      refine st_eq (fun _ => rfl) (fun c => ?_) (fun _ => rfl)
      rw [← e0, ← e1]
      simp only [st_AA]
      by_cases c1 : c = 1
      · subst c1; rfl
      · by_cases c0 : c = 0
        · subst c0; rfl
        · simp [c0, c1]) (fun j => by
      show X7_begins_L1_b (X7_begins_L1 j) (nI 8) _ = _
      unfold X7_begins_L1_b
      rw [if_pos (by rw [l8, nI_lep (by omega) (by omega)]; exact Nat.le_refl _)]) (k := N) (by omega)
  have z : sA (sA (sI (sI (sI s 0 (nI m)) 1 (nI 0)) 2 (nI 0)) 0 (fl (s.2.1 0) (fun _ => nI 0) 0)) 1 (fl (s.2.1 1) (fun _ => nI 0) 0) = sI (sI (sI s 0 (nI m)) 1 (nI 0)) 2 (nI 0) := by
    rw [fl_0, fl_0]
    refine st_eq (fun _ => rfl) (fun c => ?_) (fun _ => rfl)
    simp only [st_AA, st_IA]
    by_cases c1 : c = 1
    · subst c1; rfl
    · by_cases c0 : c = 0
      · subst c0; rfl
      · simp [c0, c1]
  rw [z] at h
  rw [l0, h, bd_s]
/-- what a change of the table leads to: both sides in step -/
def Step2 (s s' u u' : ST) (t' : TB) (d : Nat) : Prop := OKT t' ∧ XT s' 1 0 t' ∧ XT u' 0 0 t' ∧ (∀ c, c = 0 ∨ 4 < c → s'.1 c = s.1 c) ∧ (∀ c, 2 < c → s'.2.1 c = s.2.1 c) ∧ s'.2.2 = s.2.2 ∧ (∀ c, 2 < c → u'.1 c = u.1 c) ∧ (∀ c, 2 < c → u'.2.1 c = u.2.1 c) ∧ s'.1 4 = s.1 4 + nI d
theorem Inv.step {k d : Nat} {s s' u u' : ST} {t' : TB} (h : Inv k s u) (hk : k < 512) (g : Step2 s s' u u' t' d) (h1 : 1 ≤ d) (h2 : d ≤ 300) : Inv (k + 1) s' u' := by
  obtain ⟨a1, a2, a3, a4, a5, a6, a7, a8, a9⟩ := g
  refine h.mut hk a1 a2 a3 ⟨fun c hc => a4 c (by omega), fun c hc => a5 c (by omega)⟩ ⟨a7 12 (by omega), a8 3 (by omega), a8 4 (by omega), a8 15 (by omega)⟩ h1 h2 a9 (Or.inl (a4 9 (by omega))) ?_
  exact h.tape.cg (a4 11 (by omega)) (a5 15 (by omega)) (a7 3 (by omega)) (a8 6 (by omega))
def tb0 (m : Nat) : TB := (m, 0, 0, fun _ => 0, fun _ => 0, fun _ => 0)
/-- posts, on its own: also a statement of a text does it -/
theorem posts_2 {N : Nat} {s u : ST} {t : TB} (hN : 10 < N) (hO : OKT t) (hX : XT s 1 0 t) (hU : XT u 0 0 t) (v : Int32) : ∃ r s' u', X6_posts N s v = some (r, s') ∧ X7_posts N u v = some (r, u') ∧ ((s' = s ∧ u' = u ∧ r < 0) ∨ (0 ≤ r ∧ ∃ t', Step2 s s' u u' t' 1)) := by
  have h8 := hO.1
  have e7 : X7_in v (1 : Int32) (8 : Int32) = some (bI (decide ((1 : Int) ≤ v.toInt ∧ v.toInt ≤ 8))) := X7_in_v (a := 1) (b := 8) (by omega) (by omega)
  unfold X6_posts X7_posts
  rw [e7, bd_s]
  by_cases c1 : v.toInt < 1
  · rw [if_pos (by rw [Int32.lt_iff_toInt_lt]; exact c1), ib_f (decide_eq_false (by omega))]
    exact ⟨_, _, _, rfl, rfl, Or.inl ⟨rfl, rfl, by decide⟩⟩
  · rw [if_neg (by rw [Int32.lt_iff_toInt_lt]; exact c1)]
    by_cases c2 : v.toInt ≤ 8
    · obtain ⟨m, hm, rfl⟩ : ∃ m, m < 9 ∧ v = nI m := inR_t (n := 9) (decide_eq_true (by omega)) (by omega)
      rw [nI_toInt (by omega)] at c1 c2
      rw [if_pos (by rw [l8, nI_lep (by omega) (by omega)]; omega), ib_t (decide_eq_true (by rw [nI_toInt (by omega)]; omega)), nm_u, nm_u, begin_X hN, bd_s, begin_M hN, bd_s, hX.1, hU.1]
      refine ⟨_, _, _, rfl, rfl, Or.inr ⟨by rw [l0, nI_lep (by omega) (by omega)]; omega, tb0 m, ⟨⟨by show 1 ≤ m; omega, by show m ≤ 8; omega⟩, Nat.two_pow_pos m, Nat.zero_le _, fun i _ => ⟨Nat.two_pow_pos m, Nat.zero_testBit i⟩, fun i _ => Nat.zero_le _, fun j hj => absurd hj (Nat.not_lt_zero j)⟩, ⟨rfl, rfl, rfl, fun i hi => (by show fl (s.2.1 0) (fun _ => nI 0) 8 i = _; exact fl_in hi), fun i hi => (by show fl (s.2.1 1) (fun _ => nI 0) 8 i = _; exact fl_in hi), fun j hj => absurd hj (Nat.not_lt_zero j)⟩, ⟨rfl, rfl, rfl, fun i hi => (by show fl (u.2.1 0) (fun _ => nI 0) 8 i = _; exact fl_in hi), fun i hi => (by show fl (u.2.1 1) (fun _ => nI 0) 8 i = _; exact fl_in hi), fun j hj => absurd hj (Nat.not_lt_zero j)⟩, fun c hc => ?_, fun c hc => ?_, rfl, fun c hc => ?_, fun c hc => ?_, ?_⟩⟩
      · simp only [st_II, st_AI]
        rw [if_neg (by omega), if_neg (by omega), if_neg (by omega), if_neg (by omega)]
      · simp only [st_IA, st_AA]
        rw [if_neg (by omega), if_neg (by omega)]
      · simp only [st_II, st_AI]
        rw [if_neg (by omega), if_neg (by omega), if_neg (by omega)]
      · simp only [st_IA, st_AA]
        rw [if_neg (by omega), if_neg (by omega)]
      · rfl
    · rw [if_neg (by rw [Int32.le_iff_toInt_le]; exact c2), ib_f (decide_eq_false (by omega))]
      exact ⟨_, _, _, rfl, rfl, Or.inl ⟨rfl, rfl, by decide⟩⟩
theorem Inv.end2 {k : Nat} {s s' u u' : ST} {r : Int32} (h : Inv k s u) (hk : k < 512) (g : (s' = s ∧ u' = u ∧ r < 0) ∨ (0 ≤ r ∧ ∃ t', Step2 s s' u u' t' 1)) : Inv (k + 1) s' u' := by
  rcases g with ⟨rfl, rfl, -⟩ | ⟨-, t', g⟩
  · exact h.mono
  · exact h.step hk g (by omega) (by omega)
theorem case_posts {k N : Nat} {s u : ST} (h : Inv k s u) (hk : k < 512) (hN : 300 < N) (v : Int32) : ∃ r s' u', X6_posts N s v = some (r, s') ∧ X7_posts N u v = some (r, u') ∧ Inv (k + 1) s' u' := by
  obtain ⟨t, hO, hX, hU⟩ := h.tab
  obtain ⟨r, s', u', e1, e2, g⟩ := posts_2 (N := N) (by omega) hO hX hU v
  exact ⟨r, s', u', e1, e2, h.end2 hk g⟩
