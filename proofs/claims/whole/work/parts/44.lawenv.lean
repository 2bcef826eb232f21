/-! THE LAW's start: what the premises say of the texts and statics -/
def tmL : List (String × Nat) := [("RoadLinks$Tape", 57), ("RoadLinks$Tape", 63), ("RoadLinks$Tape", 65), ("RoadLinks$Tape", 67), ("RoadLinks$Tape", 69), ("RoadLinks$Tape", 71), ("RoadLinks$Speller", 72), ("RoadLinks$Speller", 74), ("RoadLinks$Speller", 76), ("RoadLinks$Speller", 81)]
def tmT (i : Nat) : Term := .string (tmL.getD i ("", 0)).1 (tmL.getD i ("", 0)).2
theorem le_eqr {args : Array Value} {s : State} {t u : Term} {a : Nat} (h : (Cond.eq t u).before args s = true) (ht : t.eval args s none [] s = some (.ref a)) : u.eval args s none [] s = some (.ref a) := by
  cases hv : u.eval args s none [] s with
  | none => simp [Cond.before, Cond.holds, Cond.value, hv, ht] at h
  | some w =>
    simp only [Cond.before, Cond.holds, Cond.value, hv, ht] at h
    cases w <;> simp_all
set_option maxRecDepth 100000 in
set_option maxHeartbeats 16000000 in
theorem env_of {args : Array Value} {s : State} (hts : ∀ w ∈ lw_tbl, w.before args s = true) (hgv : (Jvm.Cond.and given_1 narrow_1).before args s = true) : ∃ (K V : Nat → Nat) (tL : Nat), ∀ G : GT, gK G = K → gV G = V → gL G = tL → (∀ q, gA G q → s.heap.size ≤ q) → EnvX G s := by
  have hs := flat_of_before _ hgv
  have hA : ∀ a : Nat, a < s.heap.size → ¬ (fun q : Nat => s.heap.size ≤ q) a := fun a h => Nat.not_le.mpr h
  obtain ⟨K, V, hS, hT⟩ := vk_Sof (args := args) (s := s) (N := 10) (tm := tmT) (len := tx_len) (byt := tx_byt) (A := fun q : Nat => s.heap.size ≤ q) (by decide +kernel)
    (fun i hi => hs _ ((by decide +kernel : ∀ i, i < 10 → Cond.exactly (tmT i) "java/lang/String" ∈ _) i hi))
    (fun i hi => hs _ ((by decide +kernel : ∀ i, i < 10 → Cond.eq (.field (tmT i) "java/lang/String" "coder" "B") (.int 0) ∈ _) i hi))
    (fun i hi => hs _ ((by decide +kernel : ∀ i, i < 10 → Cond.arrayOf (.field (tmT i) "java/lang/String" "value" "[B") .byte ∈ _) i hi))
    (fun i hi => hs _ ((by decide +kernel : ∀ i, i < 10 → Cond.eq (.length (.field (tmT i) "java/lang/String" "value" "[B")) (.int (Int32.ofNat (tx_len.getD i 0))) ∈ _) i hi))
    (fun i hi j hj => hs _ ((by decide +kernel : ∀ i, i < 10 → ∀ j, j < tx_len.getD i 0 → Cond.eq (.elem (.field (tmT i) "java/lang/String" "value" "[B") (.int (Int32.ofNat j))) (.int ((tx_byt.getD i []).getD j 0)) ∈ _) i hi j hj))
    (fun i j hi hj hij => by
      rcases (by decide +kernel : ∀ i, i < 10 → ∀ j, j < 10 → i ≠ j → (Cond.not (Cond.eq (tmT i) (tmT j)) ∈ flatC (Jvm.Cond.and given_1 narrow_1) ∨ Cond.not (Cond.eq (tmT j) (tmT i)) ∈ flatC (Jvm.Cond.and given_1 narrow_1))) i hi j hj hij with h | h
      · exact Or.inl (hs _ h)
      · exact Or.inr (hs _ h)) hA
  obtain ⟨tL, hL1, hL2⟩ := va_Tof (args := args) (s := s) (tm := .static "RoadLinks" "LACKING" "[J") (ty := .long) (N := 6) (f := fun j => .long (lackJ j)) (A := fun q : Nat => s.heap.size ≤ q) (by decide) (hs _ (by decide +kernel)) (va_eqt (z := Int32.ofNat 6) (hs _ (by decide +kernel)))
    (fun j hj => va_eqtl (hs _ ((by decide +kernel : ∀ j, j < 6 → Cond.eq (.elem (.static "RoadLinks" "LACKING" "[J") (.int (Int32.ofNat j))) (.long (lackJ j)) ∈ flatC (Jvm.Cond.and given_1 narrow_1)) j hj))) hA
  have hZ := va_Zref (A := fun q : Nat => s.heap.size ≤ q) (hts (.laysStatic "RoadLinks" "LACKING" "[J") (by decide +kernel)) (hts (.initialized "RoadLinks") (by decide +kernel)) hL1 hA
  have hC := va_Zof (A := fun q : Nat => s.heap.size ≤ q) (hts (.laysStatic "java/lang/String" "COMPACT_STRINGS" "Z") (by decide +kernel)) (hts (.initialized "java/lang/String") (by decide +kernel)) (va_eqi (z := 1) (hs _ (by decide +kernel))) hA
  have hF := va_Zqof (A := fun q : Nat => s.heap.size ≤ q) (hts (.laysStatic "jdk/internal/util/Preconditions" "SIOOBE_FORMATTER" "Ljava/util/function/BiFunction;") (by decide +kernel)) (hts (.initialized "jdk/internal/util/Preconditions") (by decide +kernel)) (hs _ (by decide +kernel)) hA
  have ev : ∀ q ∈ tx_refs, (Term.string q.1 q.2.1).eval args s none [] s = some (.ref (K q.2.2.2)) := by
    intro q hq
    have hi : q.2.2.2 < 10 := (by decide +kernel : ∀ q ∈ tx_refs, q.2.2.2 < 10) q hq
    rcases (by decide +kernel : ∀ q ∈ tx_refs, tmT q.2.2.2 = Term.string q.1 q.2.1 ∨ Cond.eq (tmT q.2.2.2) (Term.string q.1 q.2.1) ∈ flatC (Jvm.Cond.and given_1 narrow_1)) q hq with h | h
    · rw [← h]; exact hT _ hi
    · exact le_eqr (hs _ h) (hT _ hi)
  refine ⟨K, V, tL, fun G e1 e2 e3 hG => ⟨?_, hC.narrow hG, hF.narrow hG, ⟨by rw [e3]; exact hZ.narrow hG, by rw [e3]; exact hL2.narrow hG⟩, fun q hq => ?_, va_Nw.of rfl (hts _ (by decide +kernel)), fun q hq => va_Nw.of rfl (hts _ ((by decide +kernel : ∀ q ∈ nest_M, Cond.methodLinkNest q.1 q.2.1 q.2.2 "RoadLinks" ∈ lw_tbl) q hq))⟩⟩
  · rw [e1, e2]; exact hS.narrow hG
  · rw [e1]; exact vk_R.of (hts _ ((by decide +kernel : ∀ q ∈ tx_refs, Cond.stringRef q.1 q.2.1 q.2.2.1 ∈ lw_tbl) q hq)) (ev q hq)
