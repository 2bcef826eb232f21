/-! PURE 19: drop, turned, feed, wipe, count -/
def shf {α : Type} (f : Nat → α) (a i : Nat) : Nat → α := fun j => if a ≤ j ∧ j < i then f (j + 1) else f j
theorem shf_0 {α : Type} (f : Nat → α) (a : Nat) : shf f a a = f := funext fun j => if_neg (by omega)
theorem shf_u (f : Nat → Int32) {a i : Nat} (h : a ≤ i) : upd (shf f a i) i (shf f a i (i + 1)) = shf f a (i + 1) := funext fun j => by
  unfold upd shf
  by_cases e : j = i
  · subst e; rw [if_pos rfl, if_neg (by omega), if_pos (by omega)]
  · rw [if_neg e]
    by_cases q : a ≤ j ∧ j < i
    · rw [if_pos q, if_pos (by omega)]
    · rw [if_neg q, if_neg (by omega)]
theorem remove_X {N a m : Nat} {s : ST} (hN : 10 < N) (hm : s.1 3 = nI m) (h8 : m ≤ 8) (ha : a < m) : X4_remove N s (nI a) = some (sI (sI (sA s 2 (shf (s.2.1 2) a (m - 1))) 3 (nI (m - 1))) 4 (s.1 4 + nI 1)) := by
  unfold X4_remove
  have h := loopFrom (F := fun j i (z : ST) => X4_remove_L1 j (nI i) z) (t := sA s 2 (shf (s.2.1 2) a (m - 1))) a (m - 1) (by omega) (fun i => sA s 2 (shf (s.2.1 2) a i)) (fun j i h1 h2 => by
      show X4_remove_L1_b (X4_remove_L1 j) (nI i) _ = _
      unfold X4_remove_L1_b
      rw [nI_1, st_AI, hm, if_neg (by rw [nI_lep (by omega) (by omega)]; omega), inb_t (show i + 1 < 8 by omega) (by omega), gd_t, inb_t (show i < 8 by omega) (by omega), gd_t]
      simp only [nm_u, nI_clamp (show i < 2 ^ 31 by omega), nI_clamp (show i + 1 < 2 ^ 31 by omega), st_AA, if_true, sA_sA]
      rw [shf_u _ h1]) (fun j => by
      show X4_remove_L1_b (X4_remove_L1 j) (nI (m - 1)) _ = _
      unfold X4_remove_L1_b
      rw [nI_1, st_AI, hm, if_pos (by rw [nI_lep (by omega) (by omega)]; omega)]) (k := N) (by omega)
  rw [shf_0, sA_id] at h
  rw [h, bd_s]
  simp only [nm_u]
  rw [st_AI, hm, nI_m1 (by omega)]
  rfl
theorem goes_M {N a m : Nat} {s : ST} (hN : 10 < N) (hm : s.1 2 = nI m) (h8 : m ≤ 8) (ha : a < m) : X7_goes N s (nI a) = some (sA (sI s 2 (nI (m - 1))) 2 (shf (s.2.1 2) a (m - 1))) := by
  unfold X7_goes
  rw [hm, nI_m1 (by omega), nm_u]
  have h := loopFrom (F := fun j i (z : ST) => X7_goes_L1 j (nI i) z) (t := sA (sI s 2 (nI (m - 1))) 2 (shf (s.2.1 2) a (m - 1))) a (m - 1) (by omega) (fun i => sA (sI s 2 (nI (m - 1))) 2 (shf (s.2.1 2) a i)) (fun j i h1 h2 => by
      show X7_goes_L1_b (X7_goes_L1 j) (nI i) _ = _
      unfold X7_goes_L1_b
      rw [nI_1, st_AI, st_II, if_pos rfl, if_neg (by rw [nI_lep (by omega) (by omega)]; omega), inb_t (show i + 1 < 8 by omega) (by omega), gd_t, inb_t (show i < 8 by omega) (by omega), gd_t]
      simp only [nm_u, nI_clamp (show i < 2 ^ 31 by omega), nI_clamp (show i + 1 < 2 ^ 31 by omega), st_AA, if_true, sA_sA]
      rw [shf_u _ h1]) (fun j => by
      show X7_goes_L1_b (X7_goes_L1 j) (nI (m - 1)) _ = _
      unfold X7_goes_L1_b
      rw [st_AI, st_II, if_pos rfl, if_pos (by rw [nI_lep (by omega) (by omega)]; exact Nat.le_refl _)]) (k := N) (by omega)
  have z : sA (sI s 2 (nI (m - 1))) 2 (shf (s.2.1 2) a a) = sI s 2 (nI (m - 1)) := by
    rw [shf_0]
    exact sA_id (sI s 2 (nI (m - 1))) 2
  rw [z] at h
  rw [h, bd_s]
theorem shf_v {a : Nat → Int32} {f : Nat → Nat} {m i : Nat} (h : ∀ j, j < m → a j = nI (f j)) : ∀ j, j < m - 1 → shf a i (m - 1) j = nI (shf f i (m - 1) j) := fun j hj => by
  unfold shf
  by_cases q : i ≤ j ∧ j < m - 1
  · rw [if_pos q, if_pos q]; exact h _ (by omega)
  · rw [if_neg q, if_neg q]; exact h _ (by omega)
theorem case_drop {k N : Nat} {s u : ST} (h : Inv k s u) (hk : k < 512) (hN : 300 < N) (v1 : Int32) : ∃ r s' u', X6_drop N s v1 = some (r, s') ∧ X7_drop N u v1 = some (r, u') ∧ Inv (k + 1) s' u' := by
  obtain ⟨t, hO, hX, hU⟩ := h.tab
  have hK := hO.2.2.1
  unfold X6_drop X7_drop
  rw [(isNumber_2 hO hX hU v1).1, (isNumber_2 hO hX hU v1).2, bd_s, bd_s]
  refine bc (b := inR v1 (tK t)) (fun q => ⟨_, _, _, by rw [ib_f q], by rw [ib_f q], h.mono⟩) fun q1 => ?_
  obtain ⟨a, ha, rfl⟩ := inR_t q1 (by omega)
  rw [ib_t q1, ib_t q1, remove_X (by omega) hX.2.2.1 hK ha, goes_M (by omega) hU.2.2.1 hK ha, bd_s, bd_s]
  refine ⟨_, _, _, rfl, rfl, h.step (d := 1) (t' := tbF t (tK t - 1) (shf (tF t) a (tK t - 1))) hk ?_ (by omega) (by omega)⟩
  obtain ⟨o1, o2, o3, o4, o5, o6⟩ := hO
  refine ⟨⟨o1, o2, (by show tK t - 1 ≤ 8; omega), o4, o5, fun j hj => ?_⟩, ⟨hX.1, hX.2.1, rfl, hX.2.2.2.1, hX.2.2.2.2.1, shf_v hX.2.2.2.2.2⟩, ⟨hU.1, hU.2.1, rfl, hU.2.2.2.1, hU.2.2.2.2.1, shf_v hU.2.2.2.2.2⟩, fun c hc => ?_, fun c hc => ?_, rfl, fun c hc => ?_, fun c hc => ?_, rfl⟩
  · have hj : j < tK t - 1 := hj
    show shf (tF t) a (tK t - 1) j < 2 ^ tN t
    unfold shf
    split
    · exact o6 _ (by omega)
    · exact o6 _ (by omega)
  · rw [st_II, if_neg (by omega), st_II, if_neg (by omega)]; rfl
  · rw [st_IA, st_IA, st_AA, if_neg (by omega)]
  · rw [st_AI, st_II, if_neg (by omega)]
  · rw [st_AA, if_neg (by omega)]; rfl
/-- the turned family as a list of sets -/
def tur (t : TB) : Nat → Nat × (Nat → Nat)
  | 0 => (0, fun _ => 0)
  | i + 1 => if (tT t).testBit i = true then tur t i else ((tur t i).1 + 1, up1 (tur t i).2 (tur t i).1 (tR t i ||| 2 ^ i))
theorem tur_s (t : TB) (i : Nat) : tur t (i + 1) = if (tT t).testBit i = true then tur t i else ((tur t i).1 + 1, up1 (tur t i).2 (tur t i).1 (tR t i ||| 2 ^ i)) := rfl
theorem tur_le (t : TB) : ∀ {i : Nat}, (tur t i).1 ≤ i
  | 0 => Nat.le_refl _
  | i + 1 => by
    have ih := tur_le t (i := i)
    rw [tur_s]
    split
    · omega
    · show (tur t i).1 + 1 ≤ i + 1; omega
theorem tur_lt {t : TB} (hO : OKT t) : ∀ {i : Nat}, i ≤ tN t → ∀ j, j < (tur t i).1 → (tur t i).2 j < 2 ^ tN t
  | 0, _ => fun j hj => absurd hj (Nat.not_lt_zero j)
  | i + 1, hi => fun j hj => by
    have ih := tur_lt hO (i := i) (by omega)
    have h8 := hO.1
    rw [tur_s] at hj ⊢
    by_cases q : (tT t).testBit i = true
    · rw [if_pos q] at hj ⊢; exact ih j hj
    · rw [if_neg q] at hj ⊢
      have hj : j < (tur t i).1 + 1 := hj
      show up1 (tur t i).2 (tur t i).1 (tR t i ||| 2 ^ i) j < _
      unfold up1
      by_cases e : j = (tur t i).1
      · rw [if_pos e]; exact or_two_lt (hO.2.2.2.1 i (by omega)).1 (by omega)
      · rw [if_neg e]; exact ih j (by omega)
theorem turn_X {N : Nat} {s : ST} {t : TB} (hN : 10 < N) (hO : OKT t) (hX : XT s 1 0 t) : ∃ f, (∀ j, j < (tur t (tN t)).1 → f j = nI ((tur t (tN t)).2 j)) ∧ X4_turn N s = some (sI (sA (sI s 3 (nI (tur t (tN t)).1)) 2 f) 4 (s.1 4 + nI ((tur t (tN t)).1 + 1))) := by
  have h8 := hO.1
  have p8 := hO.p8
  unfold X4_turn
  rw [nm_u]
  obtain ⟨z, e, f, hz, hf⟩ := loopInv0 (F := fun j i (z : ST) => X4_turn_L1 j (nI i) z) (Q := fun z => ∃ f, z = sI (sA (sI s 3 (nI (tur t (tN t)).1)) 2 f) 4 (s.1 4 + nI (tur t (tN t)).1) ∧ ∀ j, j < (tur t (tN t)).1 → f j = nI ((tur t (tN t)).2 j)) (fun i z => ∃ f, z = sI (sA (sI s 3 (nI (tur t i).1)) 2 f) 4 (s.1 4 + nI (tur t i).1) ∧ ∀ j, j < (tur t i).1 → f j = nI ((tur t i).2 j)) (tN t) (fun j i z hi ⟨f, hz, hf⟩ => by
      subst hz
      have le := tur_le t (i := i)
      show ∃ z', _ ∧ X4_turn_L1_b (X4_turn_L1 j) (nI i) _ = _
      unfold X4_turn_L1_b
      rw [show (sI (sA (sI s 3 (nI (tur t i).1)) 2 f) 4 (s.1 4 + nI (tur t i).1)).1 1 = nI (tN t) from hX.1, show (sI (sA (sI s 3 (nI (tur t i).1)) 2 f) 4 (s.1 4 + nI (tur t i).1)).1 2 = nI (tT t) from hX.2.1, if_neg (by rw [nI_lep (by omega) (by omega)]; omega), X6_has_v (by have := hO.2.1; omega) (by omega), bd_s, tur_s]
      by_cases q : (tT t).testBit i = true
      · rw [if_pos q, ib_t q]
        exact ⟨_, ⟨f, rfl, hf⟩, by rw [nm_u, nI_1]⟩
      · have q' : (tT t).testBit i = false := by simpa using q
        rw [if_neg q, ib_f q', inb_t (show i < 8 by omega) (by omega), gd_t, nI_clamp (by omega)]
        rw [show (sI (sA (sI s 3 (nI (tur t i).1)) 2 f) 4 (s.1 4 + nI (tur t i).1)).2.1 0 i = nI (tR t i) from hX.2.2.2.1 i (by omega), in_val (by omega)]
        unfold X4_join
        rw [show (sI (sA (sI s 3 (nI (tur t i).1)) 2 f) 4 (s.1 4 + nI (tur t i).1)).1 3 = nI (tur t i).1 from rfl, if_pos (by rw [l8, nI_ltp (by omega) (by omega)]; omega), inb_t (show (tur t i).1 < 8 by omega) (by omega), gd_t]
        simp only [nm_u, bd_s, nI_1, nI_clamp (show (tur t i).1 < 2 ^ 31 by omega)]
        refine ⟨_, ⟨upd f (tur t i).1 (nI (tR t i ||| 2 ^ i)), ?_, fun j hj => ?_⟩, rfl⟩
        · refine st_eq (fun c => ?_) (fun c => ?_) (fun _ => rfl)
          · simp only [st_II, st_AI, st_IA]
            by_cases c4 : c = 4
            · subst c4
              simp only [if_true, show ¬ (4 : Nat) = 3 by omega, if_false]
              rw [Int32.add_assoc, nI_1]
            · by_cases c3 : c = 3
              · subst c3
                simp [nI_1]
              · simp [c3, c4]
          · simp only [st_IA, st_AA]
            by_cases c2 : c = 2
            · subst c2; simp
            · simp [c2]
        · have hj : j < (tur t i).1 + 1 := hj
          show upd f (tur t i).1 (nI (tR t i ||| 2 ^ i)) j = nI (up1 (tur t i).2 (tur t i).1 (tR t i ||| 2 ^ i) j)
          unfold upd up1
          by_cases e : j = (tur t i).1
          · rw [if_pos e, if_pos e]
          · rw [if_neg e, if_neg e]; exact hf j (by omega)) (fun j z ⟨f, hz, hf⟩ => by
      subst hz
      refine ⟨_, ?_, f, rfl, hf⟩
      show X4_turn_L1_b (X4_turn_L1 j) (nI (tN t)) _ = _
      unfold X4_turn_L1_b
      rw [show (sI (sA (sI s 3 (nI (tur t (tN t)).1)) 2 f) 4 (s.1 4 + nI (tur t (tN t)).1)).1 1 = nI (tN t) from hX.1, if_pos (by rw [nI_lep (by omega) (by omega)]; exact Nat.le_refl _)]) (k := N) (by omega) (a := sI s 3 (nI 0)) ⟨s.2.1 2, by
        refine st_eq (fun c => ?_) (fun c => ?_) (fun _ => rfl)
        · simp only [st_II, st_AI]
          by_cases c4 : c = 4
          · subst c4
            show s.1 4 = s.1 4 + nI 0
            rw [show nI 0 = 0 from rfl, Int32.add_zero]
          · by_cases c3 : c = 3
            · subst c3; rfl
            · simp [c3, c4]
        · simp only [st_IA, st_AA]
          by_cases c2 : c = 2
          · subst c2; simp
          · simp [c2], fun j hj => absurd hj (Nat.not_lt_zero j)⟩
  subst hz
  refine ⟨f, hf, ?_⟩
  rw [l0, e, bd_s, nm_u]
  refine congrArg some (st_eq (fun c => ?_) (fun c => rfl) (fun _ => rfl))
  simp only [st_II, st_AI]
  by_cases c4 : c = 4
  · subst c4
    simp only [if_true]
    rw [Int32.add_assoc, nI_1]
  · simp [c4]
theorem turn_M {N : Nat} {s : ST} {t : TB} (hN : 10 < N) (hO : OKT t) (hX : XT s 0 0 t) : ∃ f, (∀ j, j < (tur t (tN t)).1 → f j = nI ((tur t (tN t)).2 j)) ∧ X7_turned N s = some (nI (tur t (tN t)).1, sA (sI s 2 (nI (tur t (tN t)).1)) 2 f) := by
  have h8 := hO.1
  have p8 := hO.p8
  unfold X7_turned
  rw [nm_u]
  obtain ⟨z, e, f, hz, hf⟩ := loopInv0 (F := fun j i (z : ST) => X7_turned_L1 j (nI i) z) (Q := fun z => ∃ f, z = sA (sI s 2 (nI (tur t (tN t)).1)) 2 f ∧ ∀ j, j < (tur t (tN t)).1 → f j = nI ((tur t (tN t)).2 j)) (fun i z => ∃ f, z = sA (sI s 2 (nI (tur t i).1)) 2 f ∧ ∀ j, j < (tur t i).1 → f j = nI ((tur t i).2 j)) (tN t) (fun j i z hi ⟨f, hz, hf⟩ => by
      subst hz
      have le := tur_le t (i := i)
      show ∃ z', _ ∧ X7_turned_L1_b (X7_turned_L1 j) (nI i) _ = _
      unfold X7_turned_L1_b
      rw [show (sA (sI s 2 (nI (tur t i).1)) 2 f).1 0 = nI (tN t) from hX.1, show (sA (sI s 2 (nI (tur t i).1)) 2 f).1 1 = nI (tT t) from hX.2.1, if_neg (by rw [nI_lep (by omega) (by omega)]; omega), X7_has_v (by have := hO.2.1; omega) (by omega), bd_s, tur_s]
      by_cases q : (tT t).testBit i = true
      · rw [if_pos q, ib_t q]
        exact ⟨_, ⟨f, rfl, hf⟩, by rw [nm_u, nI_1]⟩
      · have q' : (tT t).testBit i = false := by simpa using q
        rw [if_neg q, ib_f q', inb_t (show i < 8 by omega) (by omega), gd_t]
        rw [show (sA (sI s 2 (nI (tur t i).1)) 2 f).1 2 = nI (tur t i).1 from rfl, inb_t (show (tur t i).1 < 8 by omega) (by omega), gd_t]
        simp only [nm_u, nI_1, nI_clamp (show (tur t i).1 < 2 ^ 31 by omega), nI_clamp (show i < 2 ^ 31 by omega)]
        rw [show (sA (sI s 2 (nI (tur t i).1)) 2 f).2.1 0 i = nI (tR t i) from hX.2.2.2.1 i (by omega), nx_shl1 (by omega), nx_or, Nat.or_comm (2 ^ i) (tR t i)]
        refine ⟨_, ⟨upd f (tur t i).1 (nI (tR t i ||| 2 ^ i)), ?_, fun j hj => ?_⟩, rfl⟩
        · refine st_eq (fun c => ?_) (fun c => ?_) (fun _ => rfl)
          · simp only [st_II, st_AI]
            by_cases c2 : c = 2
            · subst c2; simp [nI_1]
            · simp [c2]
          · simp only [st_IA, st_AA]
            by_cases c2 : c = 2
            · subst c2; simp
            · simp [c2]
        · have hj : j < (tur t i).1 + 1 := hj
          show upd f (tur t i).1 (nI (tR t i ||| 2 ^ i)) j = nI (up1 (tur t i).2 (tur t i).1 (tR t i ||| 2 ^ i) j)
          unfold upd up1
          by_cases e : j = (tur t i).1
          · rw [if_pos e, if_pos e]
          · rw [if_neg e, if_neg e]; exact hf j (by omega)) (fun j z ⟨f, hz, hf⟩ => by
      subst hz
      refine ⟨_, ?_, f, rfl, hf⟩
      show X7_turned_L1_b (X7_turned_L1 j) (nI (tN t)) _ = _
      unfold X7_turned_L1_b
      rw [show (sA (sI s 2 (nI (tur t (tN t)).1)) 2 f).1 0 = nI (tN t) from hX.1, if_pos (by rw [nI_lep (by omega) (by omega)]; exact Nat.le_refl _)]) (k := N) (by omega) (a := sI s 2 (nI 0)) ⟨s.2.1 2, (sA_id (sI s 2 (nI 0)) 2).symm, fun j hj => absurd hj (Nat.not_lt_zero j)⟩
  subst hz
  refine ⟨f, hf, ?_⟩
  rw [l0, e, bd_s]
  rfl
theorem case_turned {k N : Nat} {s u : ST} (h : Inv k s u) (hk : k < 512) (hN : 300 < N) : ∃ r s' u', X6_turned N s = some (r, s') ∧ X7_turned N u = some (r, u') ∧ Inv (k + 1) s' u' := by
  obtain ⟨t, hO, hX, hU⟩ := h.tab
  have h8 := hO.1
  have le := tur_le t (i := tN t)
  obtain ⟨f, hf, e1⟩ := turn_X (N := N) (by omega) hO hX
  obtain ⟨g, hg, e2⟩ := turn_M (N := N) (by omega) hO hU
  unfold X6_turned
  rw [e1, bd_s, e2]
  refine ⟨_, _, _, rfl, rfl, h.step (d := (tur t (tN t)).1 + 1) (t' := tbF t (tur t (tN t)).1 (tur t (tN t)).2) hk ?_ (by omega) (by omega)⟩
  have lt := tur_lt hO (Nat.le_refl (tN t))
  obtain ⟨o1, o2, o3, o4, o5, o6⟩ := hO
  refine ⟨⟨o1, o2, (by show (tur t (tN t)).1 ≤ 8; omega), o4, o5, lt⟩, ⟨hX.1, hX.2.1, rfl, hX.2.2.2.1, hX.2.2.2.2.1, hf⟩, ⟨hU.1, hU.2.1, rfl, hU.2.2.2.1, hU.2.2.2.2.1, hg⟩, fun c hc => ?_, fun c hc => ?_, rfl, fun c hc => ?_, fun c hc => ?_, rfl⟩
  · rw [st_II, if_neg (by omega), st_AI, st_II, if_neg (by omega)]
  · rw [st_IA, st_AA, if_neg (by omega)]; rfl
  · rw [st_AI, st_II, if_neg (by omega)]
  · rw [st_AA, if_neg (by omega)]; rfl
