/-! THE LAW's rows: two worlds side by side, the script beside them -/
theorem nI_p1 (i : Nat) : nI (i + 1) = nI i + (1 : Int32) := (nI_1 i).symm
theorem nI_p2 (i : Nat) : nI (i + 2) = nI i + (2 : Int32) := (nI_add i 2).symm
theorem nI_p3 (i : Nat) : nI (i + 3) = nI i + (3 : Int32) := (nI_add i 3).symm
theorem nI_p4 (i : Nat) : nI (i + 4) = nI i + (4 : Int32) := (nI_add i 4).symm
theorem nI_p5 (i : Nat) : nI (i + 5) = nI i + (5 : Int32) := (nI_add i 5).symm
theorem nI_p6 (i : Nat) : nI (i + 6) = nI i + (6 : Int32) := (nI_add i 6).symm
def LC (p : Program) (s : State) (m : MethodId) (meth : Method) (c : Code) (args : Array Value) (b L : Nat) (xs : Nat → Int32) : Prop :=
  p.tables.exec = Jvm.exec ∧ c.code = cL_law ∧ c.maxLocals = 4 ∧ s.vm.findClass RL = some m.cls ∧ (∀ w ∈ Wd, w.before args s = true) ∧ va_X b L xs s s.heap ∧ b < s.heap.size ∧ meth.locks = false ∧ meth.sig.returnType = ret
/-- the two sides: one machine, two worlds apart, both new -/
def LF (GX GM : GT) (s : State) : Prop :=
  GM.1 = GX.1 ∧ gD GM = gD GX ∧ tys GM = tys GX ∧ (∀ σ, va_D (gA GX) (wX GX σ)) ∧ (∀ τ, va_D (gA GM) (wM GM τ)) ∧ (∀ q, gA GX q → gA GM q → False) ∧ (∀ q, gA GX q → s.heap.size ≤ q) ∧ (∀ q, gA GM q → s.heap.size ≤ q) ∧ EnvX GX s ∧ EnvX GM s ∧ va_K (gD GX) vwCl (tys GX) s
def LB (GX GM : GT) (σ τ : ST) (s : State) (H : Heap) (locs : List Loc) : Prop := va_P (gD GX) vwCl (wX GX σ) H ∧ va_P (gD GM) vwCl (wM GM τ) H ∧ va_S (fun q : Nat => s.heap.size ≤ q) s.heap H locs
section RWL
variable {p : Program} {e : Env} {R : Room} {s : State} {m : MethodId} {args : Array Value} {below : List Frame} {meth : Method} {c : Code} {H : Heap} {locs : List Loc} {cells slots : Nat} {Q : State → Prop}
variable {cc : ByteArray} {pc : Nat} {ls : Array Slot} {rest st : List Value} {GX GM : GT} {σ τ σ' τ' : ST} {b L : Nat} {xs : Nat → Int32} {lv : List (Nat × Value)}
theorem rl_sld {j : Nat} (C : LC p s m meth c args b L xs) (B : LB GX GM σ τ s H locs) (hL : L ≤ 3072) (hj : j < L) (hd : decode cL_law pc = .ok (.iaload, 1))
    (kk : W p GX.1 e R s m args below meth c H locs cells slots Q (F0 m (pc + 1) ls (.int (xs j) :: rest))) : W p GX.1 e R s m args below meth c H locs cells slots Q (F0 m pc ls (.int (nI j) :: .ref b :: rest)) := by
  have hbA : ¬ (fun q : Nat => s.heap.size ≤ q) b := Nat.not_le.mpr C.2.2.2.2.2.2.1
  refine va_sld C.1 C.2.1 C.2.2.2.2.2.1 C.2.2.2.2.2.2.1 hbA B.2.2 (vp_in_nI hj (by omega)) hd ?_
  rw [nI_clamp (by omega)]
  exact kk
theorem LF.wbX (F : LF GX GM s) (B : LB GX GM σ τ s H locs) {U : State} (hU : U.heap = H) (hW : s.WarmedH U.vm) : WB GX (wX GX σ) U := by
  obtain ⟨-, -, -, d1, -, -, n1, -, e1, -, k⟩ := F
  exact ⟨by rw [hU]; exact B.1, d1 σ, va_K.moved hW.alike k, e1.keep hW (fun q h1 h2 => by rw [hU]; exact B.2.2.2.1 q h1 (Nat.not_le.mpr h1))⟩
theorem LF.wbM (F : LF GX GM s) (B : LB GX GM σ τ s H locs) {U : State} (hU : U.heap = H) (hW : s.WarmedH U.vm) : WB GM (wM GM τ) U := by
  obtain ⟨-, hD, ht, -, d2, -, -, n2, -, e2, k⟩ := F
  exact ⟨by rw [hU]; exact B.2.1, d2 τ, by rw [hD, ht]; exact va_K.moved hW.alike k, e2.keep hW (fun q h1 h2 => by rw [hU]; exact B.2.2.2.1 q h1 (Nat.not_le.mpr h1))⟩
theorem rl_callX {y : MethodName} {bytes : ByteArray} {maxL n index : Nat} {rt : Option FieldType} {rm : Room} {rv : Value} {As : List Value} (C : LC p s m meth c args b L xs) (F : LF GX GM s) (B : LB GX GM σ τ s H locs) (hl : lv_has ls 4 lv)
    (hM : Con GX y bytes maxL rt rm (.ref (gad GX 0) :: As) (wX GX σ) (some rv) (wX GX σ')) (cs : CSV RL index y bytes maxL rt n) (hy : vwCl[6]? = some (y.cls, TX6, 9)) (hn : As.length = n) (hst : st = As.reverse ++ .ref (gad GX 0) :: rest) (hrest : (rest.map fun v => v.category).sum ≤ 8)
    (hR : rm.cells = 0 ∧ rm.slots = 0 ∧ rm.frames + 1 ≤ R.frames ∧ 8 + (maxL + 11) + rm.locals ≤ R.locals) (hf : cells ≤ R.cells ∧ slots ≤ R.slots) (hd : decode cL_law pc = .ok (.invokevirtual index, 3))
    (kk : ∀ (H1 : Heap) (locs1 : List Loc), LB GX GM σ' τ s H1 locs1 → W p GX.1 e R s m args below meth c H1 locs1 cells slots Q (F0 m (pc + 3) ls (rv :: rest))) : W p GX.1 e R s m args below meth c H locs cells slots Q (F0 m pc ls st) := by
  subst hst
  have hts := C.2.2.2.2.1
  have hK := F.2.2.2.2.2.2.2.2.2.2
  have hr := va_runV (l := GX.1) (cells := cells) (slots := slots) (locs := locs) (g := F0 m pc ls (As.reverse ++ .ref (gad GX 0) :: rest)) (Ts := Wd) (own := RL) (nL := 4) (cc := cL_law) ⟨C.1, C.2.1, C.2.2.1, C.2.2.2.1, hts⟩ hM (cwV n hts cs.1 rfl hR.1 hR.2.1 cs.2 hR.2.2) ⟨con_blind, va_recv hK B.1 hy (cX_0 GX σ), fun U hU hW => ⟨rfl, F.wbX B hU hW⟩⟩ rfl hn hl.1 rfl (lv_room (m := m) (pc := pc) (ls := ls) hrest) hd hf (p := p) (e := e) (below := below) (meth := meth)
  obtain ⟨hP, hP2, hS⟩ := B
  intro T hT X
  obtain ⟨v, st₀, t, T', L', h0, X', hL, e1, e2, ⟨⟨hv, hP1, hD1, -, -⟩, hz, hk⟩, stp⟩ := hr T hT X
  cases hv
  rw [h0] at hz hk
  obtain ⟨-, hDD, -, -, d2, dis, n1, n2, -, -, -⟩ := F
  have key : ∀ (k : Nat) (q : Nat × va_E), (wM GM τ)[k]? = some q → t.heap[q.1]? = H[q.1]? := fun k q hq => hk q.1 ((hP2 k q hq).lt) (fun z => dis q.1 z ((d2 τ).2 k q hq))
  obtain ⟨t2, a1, b1⟩ := kk T'.heap (locs ++ L') ⟨by rw [e1]; exact hP1, by rw [e1]; exact hP2.kept key, Nat.le_trans hS.1 (by rw [e1]; exact hz), fun q h1 h2 => by rw [e1, hk q (Nat.lt_of_lt_of_le h1 hS.1) (fun z => h2 (n1 q z))]; exact hS.2.1 q h1 h2, fun q hq => by
      rcases List.mem_append.mp hq with h | h
      · exact hS.2.2 q h
      · exact n1 _ (hL q h)⟩ T' rfl X'
  exact ⟨t2, stp t2 a1, b1⟩
theorem rl_callM {y : MethodName} {bytes : ByteArray} {maxL n index : Nat} {rt : Option FieldType} {rm : Room} {rv : Value} {As : List Value} (C : LC p s m meth c args b L xs) (F : LF GX GM s) (B : LB GX GM σ τ s H locs) (hl : lv_has ls 4 lv)
    (hM : Con GM y bytes maxL rt rm (.ref (gad GM 0) :: As) (wM GM τ) (some rv) (wM GM τ')) (cs : CSV RL index y bytes maxL rt n) (hy : vwCl[7]? = some (y.cls, TX7, 29)) (hn : As.length = n) (hst : st = As.reverse ++ .ref (gad GM 0) :: rest) (hrest : (rest.map fun v => v.category).sum ≤ 8)
    (hR : rm.cells = 0 ∧ rm.slots = 0 ∧ rm.frames + 1 ≤ R.frames ∧ 8 + (maxL + 11) + rm.locals ≤ R.locals) (hf : cells ≤ R.cells ∧ slots ≤ R.slots) (hd : decode cL_law pc = .ok (.invokevirtual index, 3))
    (kk : ∀ (H1 : Heap) (locs1 : List Loc), LB GX GM σ τ' s H1 locs1 → W p GX.1 e R s m args below meth c H1 locs1 cells slots Q (F0 m (pc + 3) ls (rv :: rest))) : W p GX.1 e R s m args below meth c H locs cells slots Q (F0 m pc ls st) := by
  subst hst
  have hts := C.2.2.2.2.1
  have hl1 := F.1
  have hK := F.2.2.2.2.2.2.2.2.2.2
  have hK2 : va_K (gD GM) vwCl (tys GM) s := by rw [F.2.1, F.2.2.1]; exact hK
  have hM : Met GX.1 y (Cond.code y bytes maxL rt :: Wd) rm (va_Pc (.ref (gad GM 0) :: As) (WB GM (wM GM τ))) (fun _ st o t => (o = .returned (some rv) ∧ WB GM (wM GM τ') t) ∧ va_F (gA GM) st t) 0 0 (gA GM) := by rw [← hl1]; exact hM
  have hr := va_runV (l := GX.1) (cells := cells) (slots := slots) (locs := locs) (g := F0 m pc ls (As.reverse ++ .ref (gad GM 0) :: rest)) (Ts := Wd) (own := RL) (nL := 4) (cc := cL_law) ⟨C.1, C.2.1, C.2.2.1, C.2.2.2.1, hts⟩ hM (cwV n hts cs.1 rfl hR.1 hR.2.1 cs.2 hR.2.2) ⟨con_blind, va_recv hK2 B.2.1 hy (cM_0 GM τ), fun U hU hW => ⟨rfl, F.wbM B hU hW⟩⟩ rfl hn hl.1 rfl (lv_room (m := m) (pc := pc) (ls := ls) hrest) hd hf (p := p) (e := e) (below := below) (meth := meth)
  obtain ⟨hP, hP2, hS⟩ := B
  intro T hT X
  obtain ⟨v, st₀, t, T', L', h0, X', hL, e1, e2, ⟨⟨hv, hP1, hD1, -, -⟩, hz, hk⟩, stp⟩ := hr T hT X
  cases hv
  rw [h0] at hz hk
  obtain ⟨-, hDD, -, d1, -, dis, n1, n2, -, -, -⟩ := F
  have key : ∀ (k : Nat) (q : Nat × va_E), (wX GX σ)[k]? = some q → t.heap[q.1]? = H[q.1]? := fun k q hq => hk q.1 ((hP k q hq).lt) (fun z => dis q.1 ((d1 σ).2 k q hq) z)
  obtain ⟨t2, a1, b1⟩ := kk T'.heap (locs ++ L') ⟨by rw [e1]; exact hP.kept key, by rw [e1]; exact hP1, Nat.le_trans hS.1 (by rw [e1]; exact hz), fun q h1 h2 => by rw [e1, hk q (Nat.lt_of_lt_of_le h1 hS.1) (fun z => h2 (n2 q z))]; exact hS.2.1 q h1 h2, fun q hq => by
      rcases List.mem_append.mp hq with h | h
      · exact hS.2.2 q h
      · exact n2 _ (hL q h)⟩ T' rfl X'
  exact ⟨t2, stp t2 a1, b1⟩
/-- the law's places between two calls -/
def LK (GX GM : GT) (p : Program) (e : Env) (s : State) (m : MethodId) (args : Array Value) (below : List Frame) (meth : Method) (c : Code) (Q : State → Prop) (b i : Nat) (pc : Nat) (σ τ : ST) : Prop :=
  ∀ (H : Heap) (locs : List Loc) (ls : Array Slot), LB GX GM σ τ s H locs → lv_has ls 4 [(0, .ref b), (1, .ref (gad GX 0)), (2, .ref (gad GM 0)), (3, .int (nI i))] → W p GX.1 e room_1 s m args below meth c H locs 48 4750 Q (F0 m pc ls [])
end RWL
