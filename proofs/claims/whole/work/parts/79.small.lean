/-! PURE 34: small -/
/-- one post of one set: taken out, if the bases stay -/
def smG (B : Nat → Nat) (K a i : Nat) (F : Nat → Nat) : Bool := (F a).testBit i && same (up1 F a (dif (F a) (2 ^ i))) K B K
def sm1 (B : Nat → Nat) (K a i : Nat) (p : (Nat → Nat) × Nat) : (Nat → Nat) × Nat := if smG B K a i p.1 = true then (up1 p.1 a (dif (p.1 a) (2 ^ i)), p.2 + 1) else p
def smI (B : Nat → Nat) (K a : Nat) (p : (Nat → Nat) × Nat) : Nat → (Nat → Nat) × Nat
  | 0 => p
  | i + 1 => sm1 B K a i (smI B K a p i)
def smO (B : Nat → Nat) (K n : Nat) : Nat → (Nat → Nat) × Nat
  | 0 => (B, 0)
  | a + 1 => smI B K a (smO B K n a) n
theorem sm1_ok {B : Nat → Nat} {K n a i : Nat} {p : (Nat → Nat) × Nat} (h : ∀ j, j < K → p.1 j < 2 ^ n) (ha : a < K) : (∀ j, j < K → (sm1 B K a i p).1 j < 2 ^ n) ∧ (sm1 B K a i p).2 ≤ p.2 + 1 := by
  unfold sm1
  split
  · exact ⟨up1_lt h (dif_lt (h a ha)), Nat.le_refl _⟩
  · exact ⟨h, Nat.le_succ _⟩
theorem smI_ok {B : Nat → Nat} {K n a : Nat} {p : (Nat → Nat) × Nat} (h : ∀ j, j < K → p.1 j < 2 ^ n) (ha : a < K) : ∀ {i : Nat}, (∀ j, j < K → (smI B K a p i).1 j < 2 ^ n) ∧ (smI B K a p i).2 ≤ p.2 + i
  | 0 => ⟨h, Nat.le_refl _⟩
  | i + 1 => by
    obtain ⟨h1, h2⟩ := smI_ok (B := B) h ha (i := i)
    obtain ⟨h3, h4⟩ := sm1_ok (B := B) (i := i) h1 ha
    exact ⟨h3, by show (sm1 B K a i (smI B K a p i)).2 ≤ _; omega⟩
theorem smO_ok {B : Nat → Nat} {K n : Nat} (h8 : n ≤ 8) (h : ∀ j, j < K → B j < 2 ^ n) : ∀ {a : Nat}, a ≤ K → (∀ j, j < K → (smO B K n a).1 j < 2 ^ n) ∧ (smO B K n a).2 ≤ 8 * a
  | 0, _ => ⟨h, Nat.le_refl _⟩
  | a + 1, ha => by
    obtain ⟨h1, h2⟩ := smO_ok (B := B) h8 h (a := a) (by omega)
    obtain ⟨h3, h4⟩ := smI_ok (B := B) h1 (show a < K by omega) (i := n)
    exact ⟨h3, by show (smI B K a (smO B K n a) n).2 ≤ _; omega⟩
def CkX (t : TB) (B : Nat → Nat) (o : ST) (p : (Nat → Nat) × Nat) (z : ST) : Prop := (∀ j, j < tK t → p.1 j < 2 ^ tN t) ∧ XT z 1 0 (tbF t (tK t) p.1) ∧ MB10 z B (tK t) ∧ (∀ c, c ≠ 4 → z.1 c = o.1 c) ∧ (∀ c, c ≠ 2 → z.2.1 c = o.2.1 c) ∧ z.1 4 = o.1 4 + nI p.2
def CkM (t : TB) (B : Nat → Nat) (o : ST) (p : (Nat → Nat) × Nat) (z : ST) : Prop := (∀ j, j < tK t → p.1 j < 2 ^ tN t) ∧ XT z 0 0 (tbF t (tK t) p.1) ∧ WasB z (tN t) B (tK t) ∧ (∀ c, z.1 c = o.1 c) ∧ ∀ c, c ≠ 2 → c < 7 ∨ 10 < c → z.2.1 c = o.2.1 c
theorem small_X2 {N a : Nat} {t : TB} {B : Nat → Nat} {o s : ST} {p : (Nat → Nat) × Nat} (hN : 300 < N) (hO : OKT t) (hB : ∀ j, j < tK t → B j < 2 ^ tN t) (ha : a < tK t) (hc : CkX t B o p s) : ∃ w, X6_small_L2 N (nI a) N (0 : Int32) (nI p.2) s = some (nI (smI B (tK t) a p (tN t)).2, w) ∧ CkX t B o (smI B (tK t) a p (tN t)) w := by
  have p8 := hO.p8
  have h8 := hO.1
  have hK := hO.2.2.1
  obtain ⟨z, e, w, hz, hw⟩ := loopInv0 (F := fun j i (z : Int32 × ST) => X6_small_L2 N (nI a) j (nI i) z.1 z.2) (Q := fun z => ∃ w, z = (nI (smI B (tK t) a p (tN t)).2, w) ∧ CkX t B o (smI B (tK t) a p (tN t)) w) (fun i z => ∃ w, z = (nI (smI B (tK t) a p i).2, w) ∧ CkX t B o (smI B (tK t) a p i) w) (tN t) (fun j i z hi ⟨w, hz, hw⟩ => by
    subst hz
    show ∃ z', (∃ w', z' = (nI (sm1 B (tK t) a i (smI B (tK t) a p i)).2, w') ∧ CkX t B o (sm1 B (tK t) a i (smI B (tK t) a p i)) w') ∧ X6_small_L2_b N (nI a) (X6_small_L2 N (nI a) j) (nI i) (nI (smI B (tK t) a p i).2) w = X6_small_L2 N (nI a) j (nI (i + 1)) z'.1 z'.2
    generalize smI B (tK t) a p i = q at hw ⊢
    obtain ⟨w1, w2, w3, w4, w5, w6⟩ := hw
    have fa := w1 a ha
    have wn : w.1 1 = nI (tN t) := w2.1
    have wf : w.2.1 2 a = nI (q.1 a) := w2.2.2.2.2.2 a ha
    unfold X6_small_L2_b
    rw [wn, if_neg (by rw [nI_lep (by omega) (by omega)]; omega), inb_t (show a < 8 by omega) (by omega), gd_t, nI_clamp (by omega), wf, no_val (by omega), nm_u, gd_t, X6_has_v (by omega) (by omega), bd_s]
    by_cases g : (q.1 a).testBit i = true
    · obtain ⟨b, c, e⟩ := stays_v (N := N) (a := a) (z := dif (q.1 a) (2 ^ i)) hN (hO.fam w1) w2 w3 ha (dif_lt fa)
      have e : X2_stays N w (nI a) (nI (dif (q.1 a) (2 ^ i))) = some (bI (same (up1 q.1 a (dif (q.1 a) (2 ^ i))) (tK t) B (tK t)), mB13 w b c) := e
      have lp : smG B (tK t) a i q.1 = same (up1 q.1 a (dif (q.1 a) (2 ^ i))) (tK t) B (tK t) := by unfold smG; rw [g, Bool.true_and]
      rw [ib_t g, e, bd2_s]
      unfold sm1
      rw [lp]
      cases same (up1 q.1 a (dif (q.1 a) (2 ^ i))) (tK t) B (tK t) with
      | false =>
        rw [ib_f rfl, if_neg (by decide), nm_u, nI_1]
        exact ⟨_, ⟨mB13 w b c, rfl, w1, w2.cg rfl rfl rfl rfl rfl rfl, w3, w4, w5, w6⟩, rfl⟩
      | true =>
        rw [ib_t rfl, if_pos rfl]
        unfold X4_replace
        rw [inb_t (show a < 8 by omega) (by omega), gd_t, nI_clamp (by omega), nm_u, nm_u, bd_s, nm_u, nm_u, nI_1, nI_1]
        refine ⟨(nI (q.2 + 1), sI (sA (mB13 w b c) 2 (upd (w.2.1 2) a (nI (dif (q.1 a) (2 ^ i))))) 4 (w.1 4 + (1 : Int32))), ⟨sI (sA (mB13 w b c) 2 (upd (w.2.1 2) a (nI (dif (q.1 a) (2 ^ i))))) 4 (w.1 4 + (1 : Int32)), rfl, up1_lt w1 (dif_lt fa), ⟨w2.1, w2.2.1, w2.2.2.1, w2.2.2.2.1, w2.2.2.2.2.1, up1_v w2.2.2.2.2.2⟩, w3, fun c hc => ?_, fun c hc => ?_, ?_⟩, rfl⟩
        · rw [sI_ne hc]; exact w4 c hc
        · rw [st_IA, sA_ne hc]; exact w5 c hc
        · show w.1 4 + (1 : Int32) = o.1 4 + nI (q.2 + 1)
          rw [w6, Int32.add_assoc, nI_1]
    · have g' : (q.1 a).testBit i = false := by simpa using g
      have lp : smG B (tK t) a i q.1 = false := by unfold smG; rw [g']; rfl
      unfold sm1
      rw [ib_f g', lp, if_neg (by decide), nm_u, nI_1]
      exact ⟨_, ⟨w, rfl, w1, w2, w3, w4, w5, w6⟩, rfl⟩) (fun j z ⟨w, hz, hw⟩ => by
    subst hz
    refine ⟨_, ?_, w, rfl, hw⟩
    show X6_small_L2_b N (nI a) (X6_small_L2 N (nI a) j) (nI (tN t)) (nI (smI B (tK t) a p (tN t)).2) w = _
    unfold X6_small_L2_b
    rw [show w.1 1 = nI (tN t) from hw.2.1.1, if_pos (by rw [nI_lep (by omega) (by omega)]; exact Nat.le_refl _)]) (k := N) (by omega) (a := (nI p.2, s)) ⟨s, rfl, hc⟩
  subst hz
  exact ⟨w, e, hw⟩
theorem small_M2 {N a : Nat} {t : TB} {B : Nat → Nat} {o s : ST} {p : (Nat → Nat) × Nat} (hN : 300 < N) (hO : OKT t) (hB : ∀ j, j < tK t → B j < 2 ^ tN t) (ha : a < tK t) (hc : CkM t B o p s) : ∃ w, X7_small_L2 N (nI a) N (0 : Int32) (nI p.2) s = some (nI (smI B (tK t) a p (tN t)).2, w) ∧ CkM t B o (smI B (tK t) a p (tN t)) w := by
  have p8 := hO.p8
  have h8 := hO.1
  have hK := hO.2.2.1
  obtain ⟨z, e, w, hz, hw⟩ := loopInv0 (F := fun j i (z : Int32 × ST) => X7_small_L2 N (nI a) j (nI i) z.1 z.2) (Q := fun z => ∃ w, z = (nI (smI B (tK t) a p (tN t)).2, w) ∧ CkM t B o (smI B (tK t) a p (tN t)) w) (fun i z => ∃ w, z = (nI (smI B (tK t) a p i).2, w) ∧ CkM t B o (smI B (tK t) a p i) w) (tN t) (fun j i z hi ⟨w, hz, hw⟩ => by
    subst hz
    show ∃ z', (∃ w', z' = (nI (sm1 B (tK t) a i (smI B (tK t) a p i)).2, w') ∧ CkM t B o (sm1 B (tK t) a i (smI B (tK t) a p i)) w') ∧ X7_small_L2_b N (nI a) (X7_small_L2 N (nI a) j) (nI i) (nI (smI B (tK t) a p i).2) w = X7_small_L2 N (nI a) j (nI (i + 1)) z'.1 z'.2
    generalize smI B (tK t) a p i = q at hw ⊢
    obtain ⟨w1, w2, w3, w4, w5⟩ := hw
    have fa := w1 a ha
    have wn : w.1 0 = nI (tN t) := w2.1
    have wf : w.2.1 2 a = nI (q.1 a) := w2.2.2.2.2.2 a ha
    unfold X7_small_L2_b
    rw [wn, if_neg (by rw [nI_lep (by omega) (by omega)]; omega), inb_t (show a < 8 by omega) (by omega), gd_t, nI_clamp (by omega), wf, X7_has_v (by omega) (by omega), bd_s]
    by_cases g : (q.1 a).testBit i = true
    · have g8 := (ScG.rf a w).put (nI (dif (q.1 a) (2 ^ i)))
      have x8 : XT (sA w 2 (upd (w.2.1 2) a (nI (dif (q.1 a) (2 ^ i))))) 0 0 (tbF t (tK t) (up1 q.1 a (dif (q.1 a) (2 ^ i)))) := (ScG.rf a w).xt (y := dif (q.1 a) (2 ^ i)) w2
      have ea : (sA w 2 (upd (w.2.1 2) a (nI (dif (q.1 a) (2 ^ i))))).2.1 2 a = nI (dif (q.1 a) (2 ^ i)) := by rw [sA_at, upd_q, if_pos rfl]
      rw [ib_t g, gd_t, gd_t, no_val (by omega), nm_u]
      generalize sA w 2 (upd (w.2.1 2) a (nI (dif (q.1 a) (2 ^ i)))) = w8 at g8 x8 ea ⊢
      obtain ⟨w', e, sl⟩ := are_v (N := N) hN (hO.fam (up1_lt (a := a) w1 (dif_lt (b := 2 ^ i) fa))) x8 (m := tK t) (B := B) hB (w3.cg (g8.2.1 13 (by omega) (by omega)))
      have e : X7_areBases N w8 = some (bI (same (up1 q.1 a (dif (q.1 a) (2 ^ i))) (tK t) B (tK t)), w') := e
      have lp : smG B (tK t) a i q.1 = same (up1 q.1 a (dif (q.1 a) (2 ^ i))) (tK t) B (tK t) := by unfold smG; rw [g, Bool.true_and]
      have gs := g8.scL sl
      have ew : w'.2.1 2 a = nI (dif (q.1 a) (2 ^ i)) := by rw [sl.2 2 (by omega)]; exact ea
      rw [e, bd2_s]
      unfold sm1
      rw [lp]
      cases same (up1 q.1 a (dif (q.1 a) (2 ^ i))) (tK t) B (tK t) with
      | false =>
        have gb := gs.back
        rw [wf] at gb
        rw [ib_f rfl, if_neg (by decide), gd_t, gd_t, ew, in_val (by omega), dif_or g, nm_u, nm_u, nI_1]
        exact ⟨_, ⟨_, rfl, w1, w2.scL gb (by omega), w3.cg (gb.2 13 (by omega)), fun c => (gb.1 c).trans (w4 c), fun c h1 h2 => (gb.2 c h2).trans (w5 c h1 h2)⟩, rfl⟩
      | true =>
        rw [ib_t rfl, if_pos rfl, nm_u, nm_u, nI_1, nI_1]
        exact ⟨_, ⟨w', rfl, up1_lt w1 (dif_lt fa), x8.scL sl (by omega), w3.cg (gs.2.1 13 (by omega) (by omega)), fun c => (gs.1 c).trans (w4 c), fun c h1 h2 => (gs.2.1 c h1 h2).trans (w5 c h1 h2)⟩, rfl⟩
    · have g' : (q.1 a).testBit i = false := by simpa using g
      have lp : smG B (tK t) a i q.1 = false := by unfold smG; rw [g']; rfl
      unfold sm1
      rw [ib_f g', lp, if_neg (by decide), nm_u, nI_1]
      exact ⟨_, ⟨w, rfl, w1, w2, w3, w4, w5⟩, rfl⟩) (fun j z ⟨w, hz, hw⟩ => by
    subst hz
    refine ⟨_, ?_, w, rfl, hw⟩
    show X7_small_L2_b N (nI a) (X7_small_L2 N (nI a) j) (nI (tN t)) (nI (smI B (tK t) a p (tN t)).2) w = _
    unfold X7_small_L2_b
    rw [show w.1 0 = nI (tN t) from hw.2.1.1, if_pos (by rw [nI_lep (by omega) (by omega)]; exact Nat.le_refl _)]) (k := N) (by omega) (a := (nI p.2, s)) ⟨s, rfl, hc⟩
  subst hz
  exact ⟨w, e, hw⟩
theorem small_X1 {N : Nat} {t : TB} {B : Nat → Nat} {o s : ST} (hN : 300 < N) (hO : OKT t) (hB : ∀ j, j < tK t → B j < 2 ^ tN t) (hc : CkX t B o (B, 0) s) : ∃ w, X6_small_L1 N N (0 : Int32) (0 : Int32) s = some (nI (smO B (tK t) (tN t) (tK t)).2, w) ∧ CkX t B o (smO B (tK t) (tN t) (tK t)) w := by
  have hK := hO.2.2.1
  obtain ⟨z, e, w, hz, hw⟩ := loopInv0 (F := fun j i (z : Int32 × ST) => X6_small_L1 N j (nI i) z.1 z.2) (Q := fun z => ∃ w, z = (nI (smO B (tK t) (tN t) (tK t)).2, w) ∧ CkX t B o (smO B (tK t) (tN t) (tK t)) w) (fun i z => ∃ w, z = (nI (smO B (tK t) (tN t) i).2, w) ∧ CkX t B o (smO B (tK t) (tN t) i) w) (tK t) (fun j i z hi ⟨w, hz, hw⟩ => by
    subst hz
    obtain ⟨w', e, hw'⟩ := small_X2 (N := N) hN hO hB hi hw
    refine ⟨(nI (smO B (tK t) (tN t) (i + 1)).2, w'), ⟨w', rfl, hw'⟩, ?_⟩
    show X6_small_L1_b N (X6_small_L1 N j) (nI i) (nI (smO B (tK t) (tN t) i).2) w = _
    unfold X6_small_L1_b
    rw [hw.2.1.2.2.1, if_neg (by show ¬ nI (tK t) ≤ nI i; rw [nI_lep (by omega) (by omega)]; omega), e, bd_s, nm_u, nI_1]
    rfl) (fun j z ⟨w, hz, hw⟩ => by
    subst hz
    refine ⟨_, ?_, w, rfl, hw⟩
    show X6_small_L1_b N (X6_small_L1 N j) (nI (tK t)) (nI (smO B (tK t) (tN t) (tK t)).2) w = _
    unfold X6_small_L1_b
    rw [hw.2.1.2.2.1, if_pos (by show nI (tK t) ≤ nI (tK t); rw [nI_lep (by omega) (by omega)]; exact Nat.le_refl _)]) (k := N) (by omega) (a := (nI 0, s)) ⟨s, rfl, hc⟩
  subst hz
  exact ⟨w, e, hw⟩
theorem small_M1 {N : Nat} {t : TB} {B : Nat → Nat} {o s : ST} (hN : 300 < N) (hO : OKT t) (hB : ∀ j, j < tK t → B j < 2 ^ tN t) (hc : CkM t B o (B, 0) s) : ∃ w, X7_small_L1 N N (0 : Int32) (0 : Int32) s = some (nI (smO B (tK t) (tN t) (tK t)).2, w) ∧ CkM t B o (smO B (tK t) (tN t) (tK t)) w := by
  have hK := hO.2.2.1
  obtain ⟨z, e, w, hz, hw⟩ := loopInv0 (F := fun j i (z : Int32 × ST) => X7_small_L1 N j (nI i) z.1 z.2) (Q := fun z => ∃ w, z = (nI (smO B (tK t) (tN t) (tK t)).2, w) ∧ CkM t B o (smO B (tK t) (tN t) (tK t)) w) (fun i z => ∃ w, z = (nI (smO B (tK t) (tN t) i).2, w) ∧ CkM t B o (smO B (tK t) (tN t) i) w) (tK t) (fun j i z hi ⟨w, hz, hw⟩ => by
    subst hz
    obtain ⟨w', e, hw'⟩ := small_M2 (N := N) hN hO hB hi hw
    refine ⟨(nI (smO B (tK t) (tN t) (i + 1)).2, w'), ⟨w', rfl, hw'⟩, ?_⟩
    show X7_small_L1_b N (X7_small_L1 N j) (nI i) (nI (smO B (tK t) (tN t) i).2) w = _
    unfold X7_small_L1_b
    rw [hw.2.1.2.2.1, if_neg (by show ¬ nI (tK t) ≤ nI i; rw [nI_lep (by omega) (by omega)]; omega), e, bd_s, nm_u, nI_1]
    rfl) (fun j z ⟨w, hz, hw⟩ => by
    subst hz
    refine ⟨_, ?_, w, rfl, hw⟩
    show X7_small_L1_b N (X7_small_L1 N j) (nI (tK t)) (nI (smO B (tK t) (tN t) (tK t)).2) w = _
    unfold X7_small_L1_b
    rw [hw.2.1.2.2.1, if_pos (by show nI (tK t) ≤ nI (tK t); rw [nI_lep (by omega) (by omega)]; exact Nat.le_refl _)]) (k := N) (by omega) (a := (nI 0, s)) ⟨s, rfl, hc⟩
  subst hz
  exact ⟨w, e, hw⟩
/-- the sets that have posts, in order -/
def cpt (F : Nat → Nat) : Nat → Nat × (Nat → Nat)
  | 0 => (0, fun _ => 0)
  | i + 1 => if F i = 0 then cpt F i else ((cpt F i).1 + 1, up1 (cpt F i).2 (cpt F i).1 (F i))
theorem cpt_s (F : Nat → Nat) (i : Nat) : cpt F (i + 1) = if F i = 0 then cpt F i else ((cpt F i).1 + 1, up1 (cpt F i).2 (cpt F i).1 (F i)) := rfl
theorem cpt_le (F : Nat → Nat) : ∀ {i : Nat}, (cpt F i).1 ≤ i
  | 0 => Nat.le_refl _
  | i + 1 => by
    have ih := cpt_le F (i := i)
    rw [cpt_s]
    split
    · omega
    · show (cpt F i).1 + 1 ≤ i + 1; omega
theorem cpt_lt {F : Nat → Nat} {n K : Nat} (hF : ∀ j, j < K → F j < 2 ^ n) : ∀ {i : Nat}, i ≤ K → ∀ j, j < (cpt F i).1 → (cpt F i).2 j < 2 ^ n
  | 0, _ => fun j hj => absurd hj (Nat.not_lt_zero j)
  | i + 1, hi => fun j hj => by
    have ih := cpt_lt hF (i := i) (by omega)
    rw [cpt_s] at hj ⊢
    by_cases q : F i = 0
    · rw [if_pos q] at hj ⊢; exact ih j hj
    · rw [if_neg q] at hj ⊢
      have hj : j < (cpt F i).1 + 1 := hj
      show up1 (cpt F i).2 (cpt F i).1 (F i) j < _
      unfold up1
      by_cases e : j = (cpt F i).1
      · rw [if_pos e]; exact hF i (by omega)
      · rw [if_neg e]; exact ih j (by omega)
theorem removeEmpty_X {N n K : Nat} {s : ST} {F : Nat → Nat} (hN : 300 < N) (h8 : n ≤ 8) (hK : K ≤ 8) (e3 : s.1 3 = nI K) (eF : ∀ j, j < K → s.2.1 2 j = nI (F j)) (hF : ∀ j, j < K → F j < 2 ^ n) : ∃ f, X4_removeEmpty N s = some (sI (sI (sA s 2 f) 3 (nI (cpt F K).1)) 4 (s.1 4 + nI 1)) ∧ ∀ j, j < (cpt F K).1 → f j = nI ((cpt F K).2 j) := by
  have p8 := pow8 h8
  obtain ⟨z, e, f, hz, hf, -⟩ := loopInv0 (F := fun j i (z : Int32 × ST) => X4_removeEmpty_L1 j (nI i) z.1 z.2) (Q := fun z => ∃ f, z = (nI (cpt F K).1, sA s 2 f) ∧ (∀ j, j < (cpt F K).1 → f j = nI ((cpt F K).2 j)) ∧ True) (fun i z => ∃ f, z = (nI (cpt F i).1, sA s 2 f) ∧ (∀ j, j < (cpt F i).1 → f j = nI ((cpt F i).2 j)) ∧ ∀ j, i ≤ j → j < K → f j = nI (F j)) K (fun j i z hi ⟨f, hz, hf, hg⟩ => by
    subst hz
    have le := cpt_le F (i := i)
    have fi := hF i hi
    show ∃ z', _ ∧ X4_removeEmpty_L1_b (X4_removeEmpty_L1 j) (nI i) (nI (cpt F i).1) (sA s 2 f) = _
    unfold X4_removeEmpty_L1_b
    rw [show (sA s 2 f).1 3 = nI K from e3, if_neg (by rw [nI_lep (by omega) (by omega)]; omega), inb_t (show i < 8 by omega) (by omega), gd_t, nI_clamp (show i < 2 ^ 31 by omega), sA_at, hg i (Nat.le_refl i) hi, cpt_s]
    by_cases q : F i = 0
    · rw [if_pos (show nI (F i) = 0 by rw [nI_eq0 (by omega)]; exact q), if_pos q, nm_u, nI_1]
      exact ⟨_, ⟨f, rfl, hf, fun j h1 h2 => hg j (by omega) h2⟩, rfl⟩
    · rw [if_neg (show ¬ nI (F i) = 0 by rw [nI_eq0 (by omega)]; exact q), if_neg q, gd_t, inb_t (show (cpt F i).1 < 8 by omega) (by omega), gd_t, nI_clamp (show (cpt F i).1 < 2 ^ 31 by omega), nm_u, nm_u, nm_u, nI_1, nI_1, sA_sA]
      refine ⟨_, ⟨upd f (cpt F i).1 (nI (F i)), rfl, fun j hj => ?_, fun j h1 h2 => ?_⟩, rfl⟩
      · have hj : j < (cpt F i).1 + 1 := hj
        show upd f (cpt F i).1 (nI (F i)) j = nI (up1 (cpt F i).2 (cpt F i).1 (F i) j)
        unfold upd up1
        by_cases e : j = (cpt F i).1
        · rw [if_pos e, if_pos e]
        · rw [if_neg e, if_neg e]; exact hf j (by omega)
      · rw [upd_q, if_neg (by omega)]
        exact hg j (by omega) h2) (fun j z ⟨f, hz, hf, hg⟩ => by
    subst hz
    refine ⟨_, ?_, f, rfl, hf, trivial⟩
    show X4_removeEmpty_L1_b (X4_removeEmpty_L1 j) (nI K) (nI (cpt F K).1) (sA s 2 f) = _
    unfold X4_removeEmpty_L1_b
    rw [show (sA s 2 f).1 3 = nI K from e3, if_pos (by rw [nI_lep (by omega) (by omega)]; exact Nat.le_refl _)]) (k := N) (by omega) (a := ((0 : Int32), s)) ⟨s.2.1 2, by rw [sA_id]; rfl, fun j hj => absurd hj (Nat.not_lt_zero j), fun j _ h => eF j h⟩
  subst hz
  have e : X4_removeEmpty_L1 N (0 : Int32) (0 : Int32) s = some (nI (cpt F K).1, sA s 2 f) := e
  unfold X4_removeEmpty
  rw [e, bd_s, nm_u, nm_u]
  exact ⟨f, rfl, hf⟩
theorem removeEmpty_M {N n K : Nat} {s : ST} {F : Nat → Nat} (hN : 300 < N) (h8 : n ≤ 8) (hK : K ≤ 8) (e2 : s.1 2 = nI K) (eF : ∀ j, j < K → s.2.1 2 j = nI (F j)) (hF : ∀ j, j < K → F j < 2 ^ n) : ∃ f, X7_small_L3 N N (0 : Int32) s = some (sA (sI s 2 (nI (cpt F K).1)) 2 f) ∧ ∀ j, j < (cpt F K).1 → f j = nI ((cpt F K).2 j) := by
  have p8 := pow8 h8
  obtain ⟨z, e, f, hz, hf⟩ := loopInv0 (F := fun j i (z : Int32 × ST) => X7_small_L3 N j z.1 z.2) (Q := fun z => ∃ f, z = sA (sI s 2 (nI (cpt F K).1)) 2 f ∧ ∀ j, j < (cpt F K).1 → f j = nI ((cpt F K).2 j)) (fun i z => ∃ f, z = (nI (cpt F i).1, sA (sI s 2 (nI (K - (i - (cpt F i).1)))) 2 f) ∧ (∀ j, j < (cpt F i).1 → f j = nI ((cpt F i).2 j)) ∧ ∀ j, i ≤ j → j < K → f (j - (i - (cpt F i).1)) = nI (F j)) K (fun j i z hi ⟨f, hz, hf, hg⟩ => by
    subst hz
    have le := cpt_le F (i := i)
    have fi := hF i hi
    have gi := hg i (Nat.le_refl i) hi
    rw [show i - (i - (cpt F i).1) = (cpt F i).1 by omega] at gi
    show ∃ z' : Int32 × ST, _ ∧ X7_small_L3_b N (X7_small_L3 N j) (nI (cpt F i).1) (sA (sI s 2 (nI (K - (i - (cpt F i).1)))) 2 f) = X7_small_L3 N j z'.1 z'.2
    unfold X7_small_L3_b
    rw [show (sA (sI s 2 (nI (K - (i - (cpt F i).1)))) 2 f).1 2 = nI (K - (i - (cpt F i).1)) from rfl, if_neg (by rw [nI_lep (by omega) (by omega)]; omega), inb_t (show (cpt F i).1 < 8 by omega) (by omega), gd_t, nI_clamp (by omega), sA_at, gi, cpt_s]
    by_cases q : F i = 0
    · rw [if_pos (show nI (F i) = 0 by rw [nI_eq0 (by omega)]; exact q), goes_M (N := N) (m := K - (i - (cpt F i).1)) (s := sA (sI s 2 (nI (K - (i - (cpt F i).1)))) 2 f) (by omega) rfl (by omega) (by omega), bd_s, if_pos q]
      refine ⟨(nI (cpt F i).1, _), ⟨shf f (cpt F i).1 (K - (i - (cpt F i).1) - 1), ?_, fun j hj => ?_, fun j h1 h2 => ?_⟩, rfl⟩
      · rw [show K - (i + 1 - (cpt F i).1) = K - (i - (cpt F i).1) - 1 by omega]
        refine Prod.ext rfl (st_eq (fun c => ?_) (fun c => ?_) (fun _ => rfl))
        · simp only [st_AI, st_II]
          by_cases c2 : c = 2
          · subst c2; simp
          · simp [c2]
        · simp only [st_AA, st_IA]
          by_cases c2 : c = 2
          · subst c2; simp
          · simp [c2]
      · unfold shf
        rw [if_neg (by omega)]; exact hf j hj
      · unfold shf
        rw [if_pos (by omega), show j - (i + 1 - (cpt F i).1) + 1 = j - (i - (cpt F i).1) by omega]
        exact hg j (by omega) h2
    · rw [if_neg (show ¬ nI (F i) = 0 by rw [nI_eq0 (by omega)]; exact q), if_neg q, nm_u, nI_1]
      refine ⟨(nI ((cpt F i).1 + 1), sA (sI s 2 (nI (K - (i - (cpt F i).1)))) 2 f), ⟨f, ?_, fun j hj => ?_, fun j h1 h2 => ?_⟩, rfl⟩
      · show _ = (nI ((cpt F i).1 + 1), sA (sI s 2 (nI (K - (i + 1 - ((cpt F i).1 + 1))))) 2 f)
        rw [show i + 1 - ((cpt F i).1 + 1) = i - (cpt F i).1 by omega]
      · have hj : j < (cpt F i).1 + 1 := hj
        show f j = nI (up1 (cpt F i).2 (cpt F i).1 (F i) j)
        unfold up1
        by_cases e : j = (cpt F i).1
        · rw [if_pos e, e]; exact gi
        · rw [if_neg e]; exact hf j (by omega)
      · show f (j - (i + 1 - ((cpt F i).1 + 1))) = _
        rw [show i + 1 - ((cpt F i).1 + 1) = i - (cpt F i).1 by omega]
        exact hg j (by omega) h2) (fun j z ⟨f, hz, hf, hg⟩ => by
    subst hz
    have le := cpt_le F (i := K)
    refine ⟨_, ?_, f, rfl, hf⟩
    show X7_small_L3_b N (X7_small_L3 N j) (nI (cpt F K).1) (sA (sI s 2 (nI (K - (K - (cpt F K).1)))) 2 f) = _
    unfold X7_small_L3_b
    rw [show K - (K - (cpt F K).1) = (cpt F K).1 by omega, show (sA (sI s 2 (nI (cpt F K).1)) 2 f).1 2 = nI (cpt F K).1 from rfl, if_pos (by rw [nI_lep (by omega) (by omega)]; exact Nat.le_refl _)]) (k := N) (by omega) (a := ((0 : Int32), s)) ⟨s.2.1 2, by
      show ((0 : Int32), s) = (nI 0, sA (sI s 2 (nI (K - (0 - 0)))) 2 (s.2.1 2))
      rw [show K - (0 - 0) = K by omega, ← e2, sI_id, sA_id]; rfl, fun j hj => absurd hj (Nat.not_lt_zero j), fun j _ h => eF j h⟩
  subst hz
  exact ⟨f, e, hf⟩
theorem case_small {k N : Nat} {s u : ST} (h : Inv k s u) (hk : k < 512) (hN : 300 < N) : ∃ r s' u', X6_small N s = some (r, s') ∧ X7_small N u = some (r, u') ∧ Inv (k + 1) s' u' := by
  obtain ⟨t, s1, hO, hU, e, hR, hX1, hSc, hI⟩ := h.fresh hk hN
  have h8 := hO.1.2
  have hK := hO.2.2.1
  obtain ⟨u1, e2, m1, w1⟩ := keeps_v (N := N) hN hO hU
  have hU1 := hU.scM m1 (by omega)
  have h1 := hI u1 m1
  obtain ⟨a1, a2, ⟨ax1, ax2, ax3, ax4, ax5, ax6⟩⟩ := small_X1 (N := N) (t := t) (B := tF t) (o := s1) (s := s1) hN hO hO.2.2.2.2.2 ⟨hO.2.2.2.2.2, hX1, hR.2.2.1, fun _ _ => rfl, fun _ _ => rfl, by rw [show nI ((tF t, 0) : (Nat → Nat) × Nat).2 = 0 from rfl, Int32.add_zero]⟩
  obtain ⟨b1, b2, ⟨bx1, bx2, bx3, bx4, bx5⟩⟩ := small_M1 (N := N) (t := t) (B := tF t) (o := u1) (s := u1) hN hO hO.2.2.2.2.2 ⟨hO.2.2.2.2.2, hU1, w1, fun _ => rfl, fun _ _ _ => rfl⟩
  obtain ⟨c1, c2⟩ := smO_ok (B := tF t) h8 hO.2.2.2.2.2 (Nat.le_refl (tK t))
  generalize smO (tF t) (tK t) (tN t) (tK t) = p at a2 ax1 ax2 ax3 ax6 b2 bx1 bx2 c1 c2
  obtain ⟨f, f1, f2⟩ := removeEmpty_X (N := N) (n := tN t) (K := tK t) (s := a1) (F := p.1) hN h8 hK ax2.2.2.1 ax2.2.2.2.2.2 ax1
  obtain ⟨g, g1, g2⟩ := removeEmpty_M (N := N) (n := tN t) (K := tK t) (s := b1) (F := p.1) hN h8 hK bx2.2.2.1 bx2.2.2.2.2.2 ax1
  unfold X6_small X7_small
  rw [e, bd_s, a2, bd_s]
  dsimp only
  rw [f1, bd_s, e2, bd_s, b2, bd_s]
  dsimp only
  rw [g1, bd_s]
  have le := cpt_le p.1 (i := tK t)
  refine ⟨_, _, _, rfl, rfl, h1.mut (d := p.2 + 1) (t' := tbF t (cpt p.1 (tK t)).1 (cpt p.1 (tK t)).2) hk ⟨hO.1, hO.2.1, by show (cpt p.1 (tK t)).1 ≤ 8; omega, hO.2.2.2.1, hO.2.2.2.2.1, cpt_lt ax1 (Nat.le_refl _)⟩ ⟨ax2.1, ax2.2.1, rfl, ax2.2.2.2.1, ax2.2.2.2.2.1, f2⟩ ⟨bx2.1, bx2.2.1, rfl, bx2.2.2.2.1, bx2.2.2.2.2.1, g2⟩ ⟨fun c hc => ?_, fun c hc => ?_⟩ ⟨?_, ?_, ?_, ?_⟩ (by omega) (by omega) ?_ (Or.inl ?_) ?_⟩
  · rw [sI_ne (by omega), sI_ne (by omega)]; exact ax4 c (by omega)
  · rw [st_IA, st_IA, sA_ne (by omega)]; exact ax5 c (by omega)
  · exact bx4 12
  · exact bx5 3 (by omega) (by omega)
  · exact bx5 4 (by omega) (by omega)
  · exact bx5 15 (by omega) (by omega)
  · show a1.1 4 + nI 1 = _
    rw [ax6, Int32.add_assoc, nI_add]
  · exact ax4 9 (by omega)
  · exact h1.tape.cg (ax4 11 (by omega)) (ax5 15 (by omega)) (bx4 3) (bx5 6 (by omega) (by omega))
