/-! BASE: one word list for every method, the context of a body, the rows over it -/
def Wd : List Cond := lw_tbl.filter goodWord
theorem Wd_mem {w : Cond} (i : Nat) (h : lw_tbl[i]? = some w) (g : goodWord w = true) : w ∈ Wd := List.mem_filter.mpr ⟨List.mem_of_getElem? h, g⟩
theorem Wd_tbl {w : Cond} (h : w ∈ Wd) : w ∈ lw_tbl := (List.mem_filter.mp h).1
theorem Wd_good {w : Cond} (h : w ∈ Wd) : goodWord w = true := (List.mem_filter.mp h).2
theorem Wd_gi {c : Cond} (h : c ∈ Wd) : GoodIn Wd (c :: Wd) := fun w hw => by
  have hm : w ∈ Wd := (List.mem_cons.mp hw).elim (fun e => by rw [e]; exact h) id
  exact ⟨hm, good_of_word (Wd_good hm)⟩
theorem Wd_ga {l : List Cond} {c : Cond} (h : ∀ w ∈ l, w ∈ Wd) (hc : c ∈ Wd) : GoodIn Wd (l ++ c :: Wd) := fun w hw => by
  rcases List.mem_append.mp hw with h1 | h1
  · exact ⟨h w h1, good_of_word (Wd_good (h w h1))⟩
  · exact Wd_gi hc w h1
abbrev GT : Type := Launch × va_G × (Nat → Nat) × (Nat → Prop) × (Nat → ClassId) × (Nat → Nat) × (Nat → Nat) × Nat
def gD (G : GT) : va_G := G.2.1
def gad (G : GT) : Nat → Nat := G.2.2.1
def gA (G : GT) : Nat → Prop := G.2.2.2.1
def gcy (G : GT) : Nat → ClassId := G.2.2.2.2.1
def gK (G : GT) : Nat → Nat := G.2.2.2.2.2.1
def gV (G : GT) : Nat → Nat := G.2.2.2.2.2.2.1
def gL (G : GT) : Nat := G.2.2.2.2.2.2.2
def tx_byt : List (List Int32) := [[112, 111, 115, 116, 115], [114, 111, 97, 100], [98, 108, 111, 99, 107], [116, 111], [115, 101, 116], [119, 101, 105, 103, 104], [59, 114, 111, 97, 100], [59], [59, 115, 101, 116], [59, 119, 101, 105, 103, 104]]
def tx_len : List Nat := [5, 4, 5, 2, 3, 5, 5, 1, 4, 6]
def tx_refs : List (String × Nat × String × Nat) := [("RoadLinks$Tape", 57, "posts", 0), ("RoadLinks$Tape", 63, "road", 1), ("RoadLinks$Tape", 65, "block", 2), ("RoadLinks$Tape", 67, "to", 3), ("RoadLinks$Tape", 69, "set", 4), ("RoadLinks$Tape", 71, "weigh", 5), ("RoadLinks$Speller", 27, "posts", 0), ("RoadLinks$Speller", 72, ";road", 6), ("RoadLinks$Speller", 43, "to", 3), ("RoadLinks$Speller", 74, ";", 7), ("RoadLinks$Speller", 76, ";set", 8), ("RoadLinks$Speller", 81, ";weigh", 9), ("RoadLinksModel", 179, "posts", 0), ("RoadLinksModel", 180, "road", 1), ("RoadLinksModel", 182, "block", 2), ("RoadLinksModel", 184, "to", 3), ("RoadLinksModel", 186, "set", 4), ("RoadLinksModel", 188, "weigh", 5)]
def nest_M : List (String × Nat × MethodName) := [("RoadLinks$Ranks", 53, yX6_has), ("RoadLinks$Matched", 18, yX6_has), ("RoadLinks$Table", 50, yX6_has), ("RoadLinks$Choice", 36, yX6_has), ("RoadLinks$Speller", 68, yX6_has)]
def lackJ (j : Nat) : Int64 := [6148914691236517205, 3689348814741910323, 1085102592571150095, 71777214294589695, 281470681808895, 4294967295].getD j 0
/-- what is fixed outside the world: texts, statics, links of nest mates -/
def EnvX (G : GT) (U : State) : Prop :=
  vk_S 10 tx_len tx_byt (gK G) (gV G) (gA G) U U.heap ∧
  va_Z "java/lang/String" "COMPACT_STRINGS" "Z" (.int 1) (gA G) U U.heap ∧
  va_Zq "jdk/internal/util/Preconditions" "SIOOBE_FORMATTER" "Ljava/util/function/BiFunction;" (gA G) U U.heap ∧
  (va_Z "RoadLinks" "LACKING" "[J" (.ref (gL G)) (gA G) U U.heap ∧ va_T .long (gL G) 6 (fun j => .long (lackJ j)) (gA G) U U.heap) ∧
  (∀ q ∈ tx_refs, vk_R q.1 q.2.1 q.2.2.1 (gK G q.2.2.2) U) ∧
  (va_Nw (.fieldLinkNest "RoadLinks$Matched" 26 "RoadLinks" "LACKING" "[J" "RoadLinks") U ∧ ∀ q ∈ nest_M, va_Nw (.methodLinkNest q.1 q.2.1 q.2.2 "RoadLinks") U)
theorem EnvX.keep {G : GT} {s U : State} (h : EnvX G s) (hW : s.WarmedH U.vm) (hS : ∀ q : Nat, q < s.heap.size → ¬ gA G q → U.heap[q]? = s.heap[q]?) : EnvX G U := by
  obtain ⟨h1, h2, h3, ⟨h4, h5⟩, h6, h7, h8⟩ := h
  have ha := hW.alike
  exact ⟨(h1.moved ha).kept hS, (h2.moved ha).kept hS, (h3.moved ha).kept hS, ⟨(h4.moved ha).kept hS, (h5.moved ha).kept hS⟩, fun q hq => vk_R.warm hW (h6 q hq), va_Nw.warmF hW h7, fun q hq => va_Nw.warmM hW (h8 q hq)⟩
theorem EnvX.blind {G : GT} {U : State} {g : JFrame} {mk : MethodId} {a : Array Value} (h : EnvX G U) : EnvX G (U.calling g mk a) := by
  obtain ⟨h1, h2, h3, ⟨h4, h5⟩, h6, h7, h8⟩ := h
  have ha : U.vm.Alike (U.calling g mk a).vm := Vm.Alike.refl U.vm
  exact ⟨h1.moved ha, h2.moved ha, h3.moved ha, ⟨h4.moved ha, h5.moved ha⟩, fun q hq => vk_R.same rfl (h6 q hq), va_Nw.same rfl rfl h7, fun q hq => va_Nw.same rfl rfl (h8 q hq)⟩
def tys (G : GT) : List (ClassId × FieldType) := [(gcy G 0, .int), (gcy G 1, .long), (gcy G 2, .char), (gcy G 3, .boolean), (gcy G 4, .array .int)]
def WB (G : GT) (w : va_W) (U : State) : Prop := va_P (gD G) vwCl w U.heap ∧ va_D (gA G) w ∧ va_K (gD G) vwCl (tys G) U ∧ EnvX G U
def CT (G : GT) (p : Program) (s : State) (m : MethodId) (meth : Method) (c : Code) (args : Array Value) (cc : ByteArray) (nL : Nat) (own : String) : Prop :=
  p.tables.exec = Jvm.exec ∧ c.code = cc ∧ c.maxLocals = nL ∧ s.vm.findClass own = some m.cls ∧ (∀ w ∈ Wd, w.before args s = true) ∧ va_K (gD G) vwCl (tys G) s ∧ EnvX G s ∧ meth.locks = false
def HB (G : GT) (w : va_W) (s : State) (H : Heap) (locs : List Loc) : Prop := va_P (gD G) vwCl w H ∧ va_D (gA G) w ∧ va_S (gA G) s.heap H locs
/-- a method's contract over a world: from the world w it comes back with r and the world w' -/
def Con (G : GT) (y : MethodName) (bytes : ByteArray) (maxL : Nat) (ret : Option FieldType) (rm : Room) (av : List Value) (w : va_W) (r : Option Value) (w' : va_W) : Prop :=
  Met G.1 y (Cond.code y bytes maxL ret :: Wd) rm (va_Pc av (WB G w)) (fun _ st o t => (o = .returned r ∧ WB G w' t) ∧ va_F (gA G) st t) 0 0 (gA G)
/-- the contract of a method that changes nothing -/
def ConP (G : GT) (y : MethodName) (bytes : ByteArray) (maxL : Nat) (ret : Option FieldType) (rm : Room) (av : List Value) (r : Option Value) : Prop :=
  Met G.1 y (Cond.code y bytes maxL ret :: Wd) rm (va_Pc av (fun U => va_K (gD G) vwCl (tys G) U ∧ EnvX G U)) (fun _ st o t => o = .returned r ∧ t.heap = st.heap) 0 0 (fun _ => False)
def QR (G : GT) (below : List Frame) (args : Array Value) (s : State) (r : Option Value) (w' : va_W) : State → Prop := MQ below (fun _ st o t => (o = .returned r ∧ WB G w' t) ∧ va_F (gA G) st t) args s 0 0 (gA G)
def QP (below : List Frame) (args : Array Value) (s : State) (r : Option Value) : State → Prop := MQ below (fun _ st o t => o = .returned r ∧ t.heap = st.heap) args s 0 0 (fun _ => False)
theorem con_of {G : GT} {y : MethodName} {bytes : ByteArray} {maxL : Nat} {ret : Option FieldType} {rm : Room} {av : List Value} {w w' : va_W} {r : Option Value} (hy : plainName y.cls = true) (hlen : (lg_sl av).length ≤ maxL)
    (body : ∀ {p : Program} {e : Env} {s : State} {m : MethodId} {below : List Frame} {meth : Method} {c : Code}, CT G p s m meth c av.toArray bytes maxL y.cls → meth.sig.returnType = ret → ∀ {H : Heap} {locs : List Loc} {ls : Array Slot}, HB G w s H locs → lv_has ls maxL (lv_args 0 av) →
      W p G.1 e rm s m av.toArray below meth c H locs 0 0 (QR G below av.toArray s r w') (F0 m 0 ls [])) : Con G y bytes maxL ret rm av w r w' := by
  refine Met.ofW (cc := bytes) (maxL := maxL) (ret := ret) hy rfl ?_
  intro p e s m args below meth c s₁ B hml hv
  obtain ⟨rfl, hP, hD, hK, hE⟩ := hv
  have hts := atoms_spec (ws := Cond.code y bytes maxL ret :: Wd) B.pre
  have hl := lv_entry av (n := maxL) hlen
  rw [lg_entry_eq]
  exact body ⟨B.exec, B.bytes, hml, findClass_of_methodNamed B.named, fun w hw => hts w (List.mem_cons_of_mem _ hw), hK, hE, B.notSynchronized⟩ B.returns ⟨hP, hD, va_S.rf⟩ hl
theorem conP_of {G : GT} {y : MethodName} {bytes : ByteArray} {maxL : Nat} {ret : Option FieldType} {rm : Room} {av : List Value} {r : Option Value} (hy : plainName y.cls = true) (hlen : (lg_sl av).length ≤ maxL)
    (body : ∀ {p : Program} {e : Env} {s : State} {m : MethodId} {below : List Frame} {meth : Method} {c : Code}, CT G p s m meth c av.toArray bytes maxL y.cls → meth.sig.returnType = ret → ∀ {ls : Array Slot}, lv_has ls maxL (lv_args 0 av) →
      W p G.1 e rm s m av.toArray below meth c s.heap [] 0 0 (QP below av.toArray s r) (F0 m 0 ls [])) : ConP G y bytes maxL ret rm av r := by
  refine Met.ofW (cc := bytes) (maxL := maxL) (ret := ret) hy rfl ?_
  intro p e s m args below meth c s₁ B hml hv
  obtain ⟨rfl, hK, hE⟩ := hv
  have hts := atoms_spec (ws := Cond.code y bytes maxL ret :: Wd) B.pre
  have hl := lv_entry av (n := maxL) hlen
  rw [lg_entry_eq]
  exact body ⟨B.exec, B.bytes, hml, findClass_of_methodNamed B.named, fun w hw => hts w (List.mem_cons_of_mem _ hw), hK, hE, B.notSynchronized⟩ B.returns hl
/-- what a call site's words are -/
def CSV (own : String) (index : Nat) (y : MethodName) (bytes : ByteArray) (maxL : Nat) (ret : Option FieldType) (n : Nat) : Prop :=
  GoodIn Wd (wsV own index y.cls y (Cond.code y bytes maxL ret :: Wd)) ∧ (y.cls = y.cls ∧ y.cls ≠ "java/lang/invoke/MethodHandle" ∧ y.cls ≠ "java/lang/invoke/VarHandle" ∧ (parseMethodDescriptor y.desc).map (fun d => d.parameters.length) = some n)
def CSS (own : String) (index : Nat) (y : MethodName) (bytes : ByteArray) (maxL : Nat) (ret : Option FieldType) (n : Nat) : Prop :=
  GoodIn Wd (va_wsS own index y (Cond.code y bytes maxL ret :: Wd)) ∧ (y.cls ≠ "java/lang/invoke/MethodHandle" ∧ y.cls ≠ "java/lang/invoke/VarHandle" ∧ (parseMethodDescriptor y.desc).map (fun d => d.parameters.length) = some n)
section RWS
variable {p : Program} {l : Launch} {e : Env} {R : Room} {s : State} {m : MethodId} {args : Array Value} {below : List Frame} {meth : Method} {c : Code} {H : Heap} {locs : List Loc} {cells slots : Nat} {Q : State → Prop}
variable {cc : ByteArray} {pc nL : Nat} {ls : Array Slot} {rest st : List Value} {own : String} {G : GT} {lv lv' : List (Nat × Value)} {w w' : va_W}
theorem con_blind {av : List Value} : FrameBlind (va_Pc av (WB G w)) := fun a U g mk q => by
  obtain ⟨q0, qP, qD, qK, qE⟩ := q
  exact ⟨q0, qP, qD, va_K.moved (u := U) (U := U.calling g mk a) (Vm.Alike.refl U.vm) qK, qE.blind⟩
theorem conP_blind {av : List Value} : FrameBlind (va_Pc av (fun U => va_K (gD G) vwCl (tys G) U ∧ EnvX G U)) := fun a U g mk q => by
  obtain ⟨q0, qK, qE⟩ := q
  exact ⟨q0, va_K.moved (u := U) (U := U.calling g mk a) (Vm.Alike.refl U.vm) qK, qE.blind⟩
/-- behind a call that came back with the world w' -/
theorem r_back {r : Option Value} {a : Array Value} {st0 : List Value} (B : HB G w s H locs) (hr : va_Run p l e R s m args below meth c H locs cells slots 0 0 (F0 m pc ls st0) rest (fun st o t => (o = .returned r ∧ WB G w' t) ∧ va_F (gA G) st t) (gA G))
    (kk : ∀ (H1 : Heap) (locs1 : List Loc), HB G w' s H1 locs1 → W p l e R s m args below meth c H1 locs1 cells slots Q (F0 m (pc + 3) ls (r.toList ++ rest))) : W p l e R s m args below meth c H locs cells slots Q (F0 m pc ls st0) := by
  obtain ⟨hP, hD, hS⟩ := B
  intro T hT X
  obtain ⟨v, st₀, t, T', L, h0, X', hL, e1, e2, ⟨⟨hv, hP1, hD1, -, -⟩, hz, hk⟩, stp⟩ := hr T hT X
  cases hv
  rw [h0] at hz hk
  obtain ⟨t2, a1, b1⟩ := kk T'.heap (locs ++ L) ⟨by rw [e1]; exact hP1, hD1, Nat.le_trans hS.1 (by rw [e1]; exact hz), fun q h1 h2 => by rw [e1, hk q (Nat.lt_of_lt_of_le h1 hS.1) h2]; exact hS.2.1 q h1 h2, fun q hq => by
      rcases List.mem_append.mp hq with h | h
      · exact hS.2.2 q h
      · exact hL q h⟩ T' rfl X'
  exact ⟨t2, stp t2 a1, b1⟩
theorem r_backP {r : Option Value} {st0 : List Value} (hr : va_Run p l e R s m args below meth c H locs cells slots 0 0 (F0 m pc ls st0) rest (fun st o t => o = .returned r ∧ t.heap = st.heap) (fun _ => False))
    (kk : W p l e R s m args below meth c H locs cells slots Q (F0 m (pc + 3) ls (r.toList ++ rest))) : W p l e R s m args below meth c H locs cells slots Q (F0 m pc ls st0) := by
  intro T hT X
  obtain ⟨v, st₀, t, T', L, h0, X', hL, e1, e2, ⟨hv, hh⟩, stp⟩ := hr T hT X
  cases hv
  have hL0 : L = [] := by
    cases L with
    | nil => rfl
    | cons a L => exact (hL a List.mem_cons_self).elim
  subst hL0
  rw [List.append_nil] at X'
  obtain ⟨t2, a1, b1⟩ := kk T' (by rw [e1, hh, h0]) X'
  exact ⟨t2, stp t2 a1, b1⟩
theorem CT.env (C : CT G p s m meth c args cc nL own) (hS : va_S (gA G) s.heap H locs) {U : State} (hU : U.heap = H) (hW : s.WarmedH U.vm) : EnvX G U := by
  obtain ⟨-, -, -, -, -, -, hE, -⟩ := C
  exact hE.keep hW (fun q h1 h2 => by rw [hU]; exact hS.2.1 q h1 h2)
theorem CT.wb (C : CT G p s m meth c args cc nL own) (B : HB G w s H locs) {U : State} (hU : U.heap = H) (hW : s.WarmedH U.vm) : WB G w U :=
  ⟨by rw [hU]; exact B.1, B.2.1, va_K.moved hW.alike C.2.2.2.2.2.1, C.env B.2.2 hU hW⟩
theorem CT.fix (C : CT G p s m meth c args cc nL own) : CallFix p m c cc nL s args Wd own := ⟨C.1, C.2.1, C.2.2.1, C.2.2.2.1, C.2.2.2.2.1⟩
theorem r_callV {y : MethodName} {bytes : ByteArray} {maxL n index i ci a : Nat} {ret : Option FieldType} {rm : Room} {r : Option Value} {As fs : List Value} {T : u_T} {N : Nat} (C : CT G p s m meth c args cc nL own) (B : HB G w s H locs) (hl : lv_has ls nL lv)
    (hM : Con G y bytes maxL ret rm (.ref a :: As) w r w') (cs : CSV own index y bytes maxL ret n) (he : w[i]? = some (a, .inr (ci, fs))) (hc : vwCl[ci]? = some (y.cls, T, N)) (hn : As.length = n) (hst : st = As.reverse ++ .ref a :: rest) (hrest : (rest.map fun v => v.category).sum ≤ 8)
    (hR : rm.cells = 0 ∧ rm.slots = 0 ∧ rm.frames + 1 ≤ R.frames ∧ 8 + (maxL + 11) + rm.locals ≤ R.locals) (hf : cells ≤ R.cells ∧ slots ≤ R.slots) (hd : decode cc pc = .ok (.invokevirtual index, 3))
    (kk : ∀ (H1 : Heap) (locs1 : List Loc), HB G w' s H1 locs1 → W p G.1 e R s m args below meth c H1 locs1 cells slots Q (F0 m (pc + 3) ls (r.toList ++ rest))) : W p G.1 e R s m args below meth c H locs cells slots Q (F0 m pc ls st) := by
  subst hst
  have hK := C.2.2.2.2.2.1
  exact r_back (a := (Value.ref a :: As).toArray) B (va_runV (g := F0 m pc ls (As.reverse ++ .ref a :: rest)) C.fix hM (cwV n C.2.2.2.2.1 cs.1 rfl hR.1 hR.2.1 cs.2 hR.2.2) ⟨con_blind, va_recv hK B.1 hc he, fun U hU hW => ⟨rfl, C.wb B hU hW⟩⟩ rfl hn hl.1 rfl (lv_room (m := m) (pc := pc) (ls := ls) hrest) hd hf) kk
theorem r_callVP {y : MethodName} {bytes : ByteArray} {maxL n index a : Nat} {ret : Option FieldType} {rm : Room} {r : Option Value} {As : List Value} (C : CT G p s m meth c args cc nL own) (hS : va_S (gA G) s.heap H locs) (hl : lv_has ls nL lv)
    (hM : ConP G y bytes maxL ret rm (.ref a :: As) r) (cs : CSV own index y bytes maxL ret n) (hcell : ∃ cellB : Cell, H[a]? = some cellB ∧ cellB.vm.isStatics = false ∧ s.vm.findClass y.cls = some cellB.cls) (hn : As.length = n) (hst : st = As.reverse ++ .ref a :: rest) (hrest : (rest.map fun v => v.category).sum ≤ 8)
    (hR : rm.cells = 0 ∧ rm.slots = 0 ∧ rm.frames + 1 ≤ R.frames ∧ 8 + (maxL + 11) + rm.locals ≤ R.locals) (hf : cells ≤ R.cells ∧ slots ≤ R.slots) (hd : decode cc pc = .ok (.invokevirtual index, 3))
    (kk : W p G.1 e R s m args below meth c H locs cells slots Q (F0 m (pc + 3) ls (r.toList ++ rest))) : W p G.1 e R s m args below meth c H locs cells slots Q (F0 m pc ls st) := by
  subst hst
  have hK := C.2.2.2.2.2.1
  exact r_backP (va_runV (g := F0 m pc ls (As.reverse ++ .ref a :: rest)) C.fix hM (cwV n C.2.2.2.2.1 cs.1 rfl hR.1 hR.2.1 cs.2 hR.2.2) ⟨conP_blind, hcell, fun U hU hW => ⟨rfl, va_K.moved hW.alike hK, C.env hS hU hW⟩⟩ rfl hn hl.1 rfl (lv_room (m := m) (pc := pc) (ls := ls) hrest) hd hf) kk
theorem r_callS {y : MethodName} {bytes : ByteArray} {maxL n index : Nat} {ret : Option FieldType} {rm : Room} {r : Option Value} {As : List Value} (C : CT G p s m meth c args cc nL own) (hS : va_S (gA G) s.heap H locs) (hl : lv_has ls nL lv)
    (hM : ConP G y bytes maxL ret rm As r) (cs : CSS own index y bytes maxL ret n) (hn : As.length = n) (hst : st = As.reverse ++ rest) (hrest : (rest.map fun v => v.category).sum ≤ 8)
    (hR : rm.cells = 0 ∧ rm.slots = 0 ∧ rm.frames + 1 ≤ R.frames ∧ 8 + (maxL + 11) + rm.locals ≤ R.locals) (hf : cells ≤ R.cells ∧ slots ≤ R.slots) (hd : decode cc pc = .ok (.invokestatic index, 3))
    (kk : W p G.1 e R s m args below meth c H locs cells slots Q (F0 m (pc + 3) ls (r.toList ++ rest))) : W p G.1 e R s m args below meth c H locs cells slots Q (F0 m pc ls st) := by
  subst hst
  have hK := C.2.2.2.2.2.1
  exact r_backP (va_runS (g := F0 m pc ls (As.reverse ++ rest)) C.fix hM (va_cwS n C.2.2.2.2.1 cs.1 rfl hR.1 hR.2.1 cs.2 hR.2.2) ⟨conP_blind, fun U hU hW => ⟨rfl, va_K.moved hW.alike hK, C.env hS hU hW⟩⟩ rfl hn hl.1 rfl (lv_room (m := m) (pc := pc) (ls := ls) hrest) hd hf) kk
theorem r_callSN {y : MethodName} {bytes : ByteArray} {maxL n index : Nat} {ret : Option FieldType} {rm : Room} {r : Option Value} {As : List Value} (C : CT G p s m meth c args cc nL own) (hS : va_S (gA G) s.heap H locs) (hl : lv_has ls nL lv)
    (hM : ConP G y bytes maxL ret rm As r) (hN : (own, index, y) ∈ nest_M) (hcw : Cond.code y bytes maxL ret ∈ Wd) (hini : Cond.initialized y.cls ∈ Wd) (hsta : Cond.static y ∈ Wd) (hd3 : y.cls ≠ "java/lang/invoke/MethodHandle" ∧ y.cls ≠ "java/lang/invoke/VarHandle" ∧ (parseMethodDescriptor y.desc).map (fun d => d.parameters.length) = some n) (hn : As.length = n) (hst : st = As.reverse ++ rest) (hrest : (rest.map fun v => v.category).sum ≤ 8)
    (hR : rm.cells = 0 ∧ rm.slots = 0 ∧ rm.frames + 1 ≤ R.frames ∧ 8 + (maxL + 11) + rm.locals ≤ R.locals) (hf : cells ≤ R.cells ∧ slots ≤ R.slots) (hd : decode cc pc = .ok (.invokestatic index, 3))
    (kk : W p G.1 e R s m args below meth c H locs cells slots Q (F0 m (pc + 3) ls (r.toList ++ rest))) : W p G.1 e R s m args below meth c H locs cells slots Q (F0 m pc ls st) := by
  subst hst
  have hts := C.2.2.2.2.1
  have hK := C.2.2.2.2.2.1
  have hE := C.2.2.2.2.2.2.1
  exact r_backP (va_runSN (g := F0 m pc ls (As.reverse ++ rest)) C.fix hM ⟨va_cnB n hts (Wd_gi hcw) rfl hR.1 hR.2.1 (hE.2.2.2.2.2.2 (own, index, y) hN) (hts _ hini) hd3 hR.2.2, hts _ hsta, trivial⟩ ⟨conP_blind, fun U hU hW => ⟨rfl, va_K.moved hW.alike hK, C.env hS hU hW⟩⟩ rfl hn hl.1 rfl (lv_room (m := m) (pc := pc) (ls := ls) hrest) hd hf) kk
end RWS
