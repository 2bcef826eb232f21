/-! MAKING: what a constructor's rows are; the cells of a new object stand behind those that were there -/
def nest_I : List (String × Nat × MethodName) := [("RoadLinks", 9, yX4_init), ("RoadLinks", 25, yX2_init), ("RoadLinks$Ranks", 11, yX1_init), ("RoadLinks", 32, yX0_init), ("RoadLinks", 48, yX5_init), ("RoadLinks", 55, yX3_init)]
def AOA (U : State) : Prop := (Cond.arrayOver (.array .int)).before #[] U = true
theorem AOA.moved {u U : State} (hvm : u.vm.Alike U.vm) (h : AOA u) : AOA U := by
  unfold AOA Cond.before Cond.holds at h
  simp only [Cond.value, beq_iff_eq, Option.bind_eq_some_iff, Option.map_eq_some_iff] at h
  obtain ⟨comp, h1, c, h2, k, h3, h4⟩ := h
  obtain ⟨k', hk', he⟩ := hvm.2.2 _ _ h3
  have e3 : k'.kind = k.kind := by rw [he]
  have hb : U.vm.bare = u.vm.bare := by first | exact hvm.bare_eq | exact hvm.bare_eq.symm
  have h2 := (va_idx_bare u.vm comp).trans h2
  rw [← hb] at h2
  have hi := (va_idx_bare U.vm comp).symm.trans h2
  unfold AOA Cond.before Cond.holds
  simp only [Cond.value, beq_iff_eq, Option.bind_eq_some_iff, Option.map_eq_some_iff]
  refine ⟨comp, by rw [hvm.findClass]; exact h1, c, hi, k', hk', ?_⟩
  rw [e3, ← h4]
  rw [hvm.findClass]
def NestI (U : State) : Prop := (∀ q ∈ nest_I, va_Nw (.methodLinkNest q.1 q.2.1 q.2.2 "RoadLinks") U) ∧ AOA U
def CI (G : GT) (p : Program) (s : State) (m : MethodId) (meth : Method) (c : Code) (args : Array Value) (cc : ByteArray) (nL : Nat) (own : String) (A : Nat → Prop) : Prop :=
  p.tables.exec = Jvm.exec ∧ c.code = cc ∧ c.maxLocals = nL ∧ s.vm.findClass own = some m.cls ∧ (∀ w ∈ Wd, w.before args s = true) ∧ va_K (gD G) vwCl (tys G) s ∧ NestI s ∧ meth.locks = false ∧ meth.name = "<init>" ∧ ∀ q : Nat, s.heap.size ≤ q → A q
def HI (G : GT) (A : Nat → Prop) (w : va_W) (s : State) (H : Heap) (locs : List Loc) : Prop := va_P (gD G) vwCl w H ∧ va_D A w ∧ va_S A s.heap H locs
def ConI (G : GT) (y : MethodName) (bytes : ByteArray) (maxL : Nat) (rm : Room) (av : List Value) (w : va_W) (mc ms : Nat) (post : va_W → Prop) : Prop :=
  ∀ sz : Nat, Met G.1 y (Cond.code y bytes maxL none :: Wd) rm (va_Pc av (fun U => U.heap.size = sz ∧ va_P (gD G) vwCl w U.heap ∧ va_K (gD G) vwCl (tys G) U ∧ va_D (fun _ => True) w ∧ NestI U)) (fun _ st o t => (o = .returned none ∧ ∃ w', post w' ∧ va_P (gD G) vwCl w' t.heap ∧ va_D (va_A w sz) w') ∧ va_F (va_A w sz) st t) mc ms (va_A w sz)
theorem NestI.blind {U : State} {g : JFrame} {mk : MethodId} {a : Array Value} (h : NestI U) : NestI (U.calling g mk a) := ⟨fun q hq => va_Nw.same rfl rfl (h.1 q hq), h.2.moved (Vm.Alike.refl U.vm)⟩
theorem NestI.warm {s U : State} (hW : s.WarmedH U.vm) (h : NestI s) : NestI U := ⟨fun q hq => va_Nw.warmM hW (h.1 q hq), h.2.moved hW.alike⟩
theorem conI_of {G : GT} {y : MethodName} {bytes : ByteArray} {maxL : Nat} {rm : Room} {av : List Value} {w : va_W} {mc ms : Nat} {post : va_W → Prop} (hy : plainName y.cls = true) (hn : y.name = "<init>") (hlen : (lg_sl av).length ≤ maxL)
    (body : ∀ {p : Program} {e : Env} {s : State} {m : MethodId} {below : List Frame} {meth : Method} {c : Code} {A : Nat → Prop}, CI G p s m meth c av.toArray bytes maxL y.cls A → meth.sig.returnType = none → ∀ {H : Heap} {locs : List Loc} {ls : Array Slot}, HI G A w s H locs → lv_has ls maxL (lv_args 0 av) →
      W p G.1 e rm s m av.toArray below meth c H locs 0 0 (MQ below (fun _ st o t => (o = .returned none ∧ ∃ w', post w' ∧ va_P (gD G) vwCl w' t.heap ∧ va_D A w') ∧ va_F A st t) av.toArray s mc ms A) (F0 m 0 ls [])) : ConI G y bytes maxL rm av w mc ms post := by
  intro sz
  refine Met.ofW (cc := bytes) (maxL := maxL) (ret := none) hy rfl ?_
  intro p e s m args below meth c s₁ B hml hv
  obtain ⟨rfl, hsz, hP, hK, hD0, hN⟩ := hv
  have hts := atoms_spec (ws := Cond.code y bytes maxL none :: Wd) B.pre
  have hl := lv_entry av (n := maxL) hlen
  have hin : meth.name = "<init>" := ((name_of_methodNamed B.named B.method).1).trans hn
  rw [lg_entry_eq]
  subst hsz
  have hD := hD0.self (sz := s.heap.size)
  exact body (A := va_A w s.heap.size) ⟨B.exec, B.bytes, hml, findClass_of_methodNamed B.named, fun w hw => hts w (List.mem_cons_of_mem _ hw), hK, hN, B.notSynchronized, hin, fun q h => Or.inr h⟩ B.returns ⟨hP, hD, va_S.rf⟩ hl
theorem va_nd_range : ∀ n, va_nd (List.range n) = true := by
  have h : ∀ (l : List Nat), l.Nodup → va_nd l = true := by
    intro l
    induction l with
    | nil => intro _; rfl
    | cons a l ih =>
      intro h
      rw [List.nodup_cons] at h
      simp [va_nd, h.1, ih h.2]
  exact fun n => h _ List.nodup_range
def NO (own : String) (index ci N : Nat) (fs : List Value) : Prop := ∃ (Cn : String) (T : u_T) (ty : Nat → FieldType), vwCl[ci]? = some (Cn, T, N) ∧ Cond.classLink own index Cn ∈ Wd ∧ Cond.instantiable Cn N ∈ Wd ∧ Cond.initialized Cn ∈ Wd ∧ (∀ w ∈ u_ws Cn T N, w ∈ Wd) ∧ (∀ k, k < N → parseFieldDescriptor (T k).2.2.1 = some (ty k)) ∧ ∀ j, j < N → defaultValue (ty j) = vp_V fs j
def FF (own : String) (index ci k : Nat) (ty : FieldType) : Prop := ∃ (T : u_T) (N : Nat) (ty0 : Nat → FieldType), vwCl[ci]? = some (own, T, N) ∧ k < N ∧ (T k).1 = own ∧ Cond.fieldLink own index own (T k).2.1 (T k).2.2.1 ∈ Wd ∧ (∀ w ∈ u_ws own T N, w ∈ Wd) ∧ (T k).2.2.2 = true ∧ (∀ k, k < N → parseFieldDescriptor (T k).2.2.1 = some (ty0 k)) ∧ (∀ a, a < N → ∀ b, b < N → a ≠ b → (T a).2.1 ≠ (T b).2.1) ∧ parseFieldDescriptor (T k).2.2.1 = some ty
section RWI
variable {p : Program} {e : Env} {R : Room} {s : State} {m : MethodId} {args : Array Value} {below : List Frame} {meth : Method} {c : Code} {H : Heap} {locs : List Loc} {cells slots : Nat} {Q : State → Prop}
variable {cc : ByteArray} {pc nL : Nat} {ls : Array Slot} {rest st : List Value} {own : String} {G : GT} {lv lv' : List (Nat × Value)} {w w' : va_W} {A : Nat → Prop}
theorem ri_obj {idx : Nat} {a : Nat} (C : CI G p s m meth c args cc nL own A) (hl : lv_has ls nL lv) (h1 : Cond.methodLink own idx objectInit ∈ Wd) (h2 : Cond.instanceMethod objectInit ∈ Wd) (h3 : Cond.code objectInit ⟨#[0xb1]⟩ 1 none ∈ Wd) (hd : decode cc pc = .ok (.invokespecial idx, 3)) (hf : 1 ≤ R.frames) (hlo : (rest.map fun v => v.category).sum + 12 ≤ R.locals)
    (kk : W p G.1 e R s m args below meth c H locs cells slots Q (F0 m (pc + 3) ls rest)) : W p G.1 e R s m args below meth c H locs cells slots Q (F0 m pc ls (.ref a :: rest)) := by
  have hts := C.2.2.2.2.1
  refine W.objInit (g := F0 m pc ls (.ref a :: rest)) C.1 C.2.1 C.2.2.2.1 (hts _ h1) (hts _ h2) (hts _ h3) rfl (hl.1.trans C.2.2.1.symm) rfl hd hf (by show 2 * 0 + _ + _ ≤ _; omega) ?_
  exact kk
theorem ri_new {index ci N : Nat} {fs : List Value} (C : CI G p s m meth c args cc nL own A) (B : HI G A w s H locs) (F : NO own index ci N fs) (hcells : cells + 1 ≤ R.cells) (hslots : slots + N ≤ R.slots) (hd : decode cc pc = .ok (.new index, 3))
    (kk : ∀ (q : Nat) (H1 : Heap), HI G A (w ++ [(q, .inr (ci, fs))]) s H1 locs → W p G.1 e R s m args below meth c H1 locs (cells + 1) (slots + N) Q (F0 m (pc + 3) ls (.ref q :: rest))) : W p G.1 e R s m args below meth c H locs cells slots Q (F0 m pc ls rest) := by
  obtain ⟨Cn, T, ty, h1, h2, h3, h4, h5, h6, h7⟩ := F
  have hts := C.2.2.2.2.1
  exact va_new (cl := vwCl) C.1 C.2.1 hts h5 ty h6 C.2.2.2.1 (hts _ h2) (hts _ h3) (hts _ h4) C.2.2.2.2.2.1 B.1 B.2.1 B.2.2 C.2.2.2.2.2.2.2.2.2 h1 h7 hcells hslots hd (fun q H1 hP hD hS => kk q H1 ⟨hP, hD, hS⟩)
theorem ri_newa {atype : ArrayType} {ty : FieldType} {t : Nat} {n : Int32} {N' : Nat} {a0 : vp_A} (C : CI G p s m meth c args cc nL own A) (B : HI G A w s H locs) (hw : Cond.arrayClass (newarray.typeOf atype) ∈ Wd) (hty : newarray.typeOf atype = ty) (hra : ∀ cA : ClassId, va_RA s cA ty → s.vm.findClass ("[" ++ ty.toString) = some cA) (ht : (tys G)[t]? = some (gcy G t, ty))
    (ha : ∀ cA : ClassId, vp_cell cA a0 = arrV cA N' (fun _ => defaultValue ty)) (hn : ¬ n < 0) (hN : n.toNatClampNeg = N') (hbytes : N' * componentBytes ty ≤ 536870912) (hcells : cells + 1 ≤ R.cells) (hslots : slots + N' ≤ R.slots) (hd : decode cc pc = .ok (.newarray atype, 2))
    (kk : ∀ (q : Nat) (H1 : Heap), HI G A (w ++ [(q, .inl (gcy G t, a0))]) s H1 locs → W p G.1 e R s m args below meth c H1 locs (cells + 1) (slots + N') Q (F0 m (pc + 2) ls (.ref q :: rest))) : W p G.1 e R s m args below meth c H locs cells slots Q (F0 m pc ls (.int n :: rest)) := by
  have hK := C.2.2.2.2.2.1
  refine va_newa (atype := atype) C.1 C.2.1 (C.2.2.2.2.1 _ hw) hty hK B.1 B.2.1 B.2.2 C.2.2.2.2.2.2.2.2.2 ha hn hN hbytes hcells hslots hd (fun q cA H1 hK2 hP hD hS => ?_)
  have e1 := hra _ (hK2.2 5 (cA, ty) rfl).2
  have e2 := hra _ (hK.2 t _ ht).2
  have e3 : cA = gcy G t := Option.some.inj (e1.symm.trans e2)
  subst e3
  exact kk q H1 ⟨hP, hD, hS⟩
theorem ri_get {index ci k i a : Nat} {fs : List Value} {v : Value} (C : CI G p s m meth c args cc nL own A) (B : HI G A w s H locs) (F : FO own index ci k) (he : w[i]? = some (a, .inr (ci, fs))) (hv : fs[k]? = some v) (hd : decode cc pc = .ok (.getfield index, 3))
    (kk : W p G.1 e R s m args below meth c H locs cells slots Q (F0 m (pc + 3) ls (v :: rest))) : W p G.1 e R s m args below meth c H locs cells slots Q (F0 m pc ls (.ref a :: rest)) := by
  obtain ⟨Cn, T, N, h1, h2, h3, h4, h5⟩ := F
  have hts := C.2.2.2.2.1
  exact va_get (ref := Cn) C.1 C.2.1 hts h5 C.2.2.2.1 C.2.2.2.2.2.1 B.1 i he h1 k h2 (hts _ h4) (fun x hx => by rw [← h3]; exact hx) hv hd kk
theorem ri_put {index ci k i a : Nat} {fs : List Value} {v : Value} {ty : FieldType} (C : CI G p s m meth c args cc nL own A) (B : HI G A w s H locs) (F : FP own index ci k ty) (he : w[i]? = some (a, .inr (ci, fs))) (hl : k < fs.length) (hn : narrow ty v = v) (hfit : fits ty v = true) (hw : w.set i (a, .inr (ci, fs.set k v)) = w') (hd : decode cc pc = .ok (.putfield index, 3))
    (kk : ∀ (H1 : Heap) (locs1 : List Loc), HI G A w' s H1 locs1 → W p G.1 e R s m args below meth c H1 locs1 cells slots Q (F0 m (pc + 3) ls rest)) : W p G.1 e R s m args below meth c H locs cells slots Q (F0 m pc ls (v :: .ref a :: rest)) := by
  obtain ⟨Cn, T, N, ty0, h1, h2, h3, h4, h5, h6, h7, h8, h9⟩ := F
  have hts := C.2.2.2.2.1
  subst hw
  exact va_put (ref := Cn) C.1 C.2.1 hts h5 ty0 h7 h8 C.2.2.2.1 C.2.2.2.2.2.1 B.1 B.2.1 B.2.2 i he h1 k h2 (hts _ h4) (fun x hx => by rw [← h3]; exact hx) h6 h9 hn hfit hl hd (fun H1 locs1 hP hD hS => kk H1 locs1 ⟨hP, hD, hS⟩)
theorem ri_putF {index ci k i a : Nat} {fs : List Value} {v : Value} {ty : FieldType} (C : CI G p s m meth c args cc nL own A) (B : HI G A w s H locs) (F : FF own index ci k ty) (he : w[i]? = some (a, .inr (ci, fs))) (hl : k < fs.length) (hn : narrow ty v = v) (hfit : fits ty v = true) (hw : w.set i (a, .inr (ci, fs.set k v)) = w') (hd : decode cc pc = .ok (.putfield index, 3))
    (kk : ∀ (H1 : Heap) (locs1 : List Loc), HI G A w' s H1 locs1 → W p G.1 e R s m args below meth c H1 locs1 cells slots Q (F0 m (pc + 3) ls rest)) : W p G.1 e R s m args below meth c H locs cells slots Q (F0 m pc ls (v :: .ref a :: rest)) := by
  obtain ⟨T, N, ty0, h1, h2, h3, h4, h5, h6, h7, h8, h9⟩ := F
  have hts := C.2.2.2.2.1
  subst hw
  exact va_putF (ref := own) C.1 C.2.1 hts h5 ty0 h7 h8 C.2.2.2.1 C.2.2.2.2.2.1 B.1 B.2.1 B.2.2 i he h1 k h2 (hts _ h4) (fun x hx => by rw [← h3]; exact hx) h6 C.2.2.2.2.2.2.2.2.1 h3 h9 hn hfit hl hd (fun H1 locs1 hP hD hS => kk H1 locs1 ⟨hP, hD, hS⟩)
theorem ri_iast {i a n : Nat} {f : Nat → Int32} {x v : Int32} (C : CI G p s m meth c args cc nL own A) (B : HI G A w s H locs) (he : w[i]? = some (a, .inl (gcy G 0, n, .inl f))) (hin : vp_in x n) (hw : w.set i (a, .inl (gcy G 0, n, .inl (upd f x.toNatClampNeg v))) = w') (hd : decode cc pc = .ok (.iastore, 1))
    (kk : ∀ (H1 : Heap) (locs1 : List Loc), HI G A w' s H1 locs1 → W p G.1 e R s m args below meth c H1 locs1 cells slots Q (F0 m (pc + 1) ls rest)) : W p G.1 e R s m args below meth c H locs cells slots Q (F0 m pc ls (.int v :: .int x :: .ref a :: rest)) := by
  subst hw
  exact va_iast C.1 C.2.1 C.2.2.2.2.2.1 B.1 B.2.1 B.2.2 i 0 he rfl hin hd (fun H1 locs1 hP hD hS => kk H1 locs1 ⟨hP, hD, hS⟩)
theorem ri_ret {post : va_W → Prop} (C : CI G p s m meth c args cc nL own A) (B : HI G A w s H locs) (hr : meth.sig.returnType = none) (hp : post w) (hd : decode cc pc = .ok (.return_, 1)) : W p G.1 e R s m args below meth c H locs cells slots (MQ below (fun _ st o t => (o = .returned none ∧ ∃ w', post w' ∧ va_P (gD G) vwCl w' t.heap ∧ va_D A w') ∧ va_F A st t) args s cells slots A) (F0 m pc ls []) :=
  W.vret C.1 C.2.1 hr (fun t ht hW => ⟨⟨rfl, w, hp, by rw [ht]; exact B.1, B.2.1⟩, B.2.2.F ht⟩) B.2.2.2.2 hd C.2.2.2.2.2.2.2.1
theorem conI_blind {av : List Value} {sz : Nat} : FrameBlind (va_Pc av (fun U => U.heap.size = sz ∧ va_P (gD G) vwCl w U.heap ∧ va_K (gD G) vwCl (tys G) U ∧ va_D (fun _ => True) w ∧ NestI U)) := fun a U g mk q => by
  obtain ⟨q0, q1, qP, qK, qD, qN⟩ := q
  exact ⟨q0, q1, qP, va_K.moved (u := U) (U := U.calling g mk a) (Vm.Alike.refl U.vm) qK, qD, qN.blind⟩
theorem ri_back {mc ms : Nat} {post : va_W → Prop} {x : Nat × va_E} {st0 : List Value} (hA : ∀ q : Nat, s.heap.size ≤ q → A q) (B : HI G A (w ++ [x]) s H locs)
    (hr : va_Run p G.1 e R s m args below meth c H locs cells slots mc ms (F0 m pc ls st0) rest (fun st o t => (o = .returned none ∧ ∃ w', post w' ∧ va_P (gD G) vwCl w' t.heap ∧ va_D (va_A [x] H.size) w') ∧ va_F (va_A [x] H.size) st t) (va_A [x] H.size))
    (kk : ∀ (w' : va_W) (H1 : Heap) (locs1 : List Loc), post w' → HI G A (w ++ w') s H1 locs1 → W p G.1 e R s m args below meth c H1 locs1 (cells + mc) (slots + ms) Q (F0 m (pc + 3) ls rest)) : W p G.1 e R s m args below meth c H locs cells slots Q (F0 m pc ls st0) := by
  obtain ⟨hP, hD, hS⟩ := B
  have hC : [w.length].map (fun i => (w ++ [x])[i]?) = [x].map some := by simp
  have hR : (List.range w.length).map (fun i => (w ++ [x])[i]?) = w.map some := by
    apply List.ext_getElem?
    intro i
    rw [List.getElem?_map, List.getElem?_map]
    by_cases h : i < w.length
    · rw [List.getElem?_range h]
      simp [List.getElem?_append_left h, h]
    · rw [List.getElem?_eq_none (l := List.range w.length) (by simp; omega), List.getElem?_eq_none (l := w) (by omega)]
      rfl
  have hF := va_free (wc := [x]) hD hS hA [w.length] hC
  intro T hT X
  obtain ⟨v, st₀, t, T', L, h0, X', hL, e1, e2, ⟨⟨hv, w', hp, hP1, hD1⟩, hz, hk⟩, stp⟩ := hr T hT X
  cases hv
  rw [h0] at hz hk
  obtain ⟨hP2, hD2⟩ := va_join (wr := w) (w1 := w') hP hD [w.length] (List.range w.length) hC hR (va_nd_range _) (fun i h1 h2 => by rw [List.mem_singleton] at h2; rw [List.mem_range] at h1; omega) hk hF hP1 hD1
  obtain ⟨t2, a1, b1⟩ := kk w' T'.heap (locs ++ L) hp ⟨by rw [e1]; exact hP2, hD2, Nat.le_trans hS.1 (by rw [e1]; exact hz), fun q h1 h2 => by rw [e1, hk q (Nat.lt_of_lt_of_le h1 hS.1) (fun z => h2 (hF q z))]; exact hS.2.1 q h1 h2, fun q hq => by
      rcases List.mem_append.mp hq with h | h
      · exact hS.2.2 q h
      · exact hF _ (hL q h)⟩ T' rfl X'
  exact ⟨t2, stp t2 a1, b1⟩
theorem ri_fix (C : CI G p s m meth c args cc nL own A) : CallFix p m c cc nL s args Wd own := ⟨C.1, C.2.1, C.2.2.1, C.2.2.2.1, C.2.2.2.2.1⟩
theorem ri_callN {y : MethodName} {bytes : ByteArray} {maxL n index mc ms : Nat} {rm : Room} {As : List Value} {post : va_W → Prop} {q : Nat} {x : va_E} (C : CI G p s m meth c args cc nL own A) (B : HI G A (w ++ [(q, x)]) s H locs) (hl : lv_has ls nL lv)
    (hM : ConI G y bytes maxL rm (.ref q :: As) [(q, x)] mc ms post) (hN : (own, index, y) ∈ nest_I) (hcw : Cond.code y bytes maxL none ∈ Wd) (hini : Cond.initialized y.cls ∈ Wd) (him : Cond.instanceMethod y ∈ Wd) (hy : y.name = "<init>") (hd3 : y.cls ≠ "java/lang/invoke/MethodHandle" ∧ y.cls ≠ "java/lang/invoke/VarHandle" ∧ (parseMethodDescriptor y.desc).map (fun d => d.parameters.length) = some n) (hn : As.length = n) (hst : st = As.reverse ++ .ref q :: rest) (hrest : (rest.map fun v => v.category).sum ≤ 8)
    (hR : rm.cells = mc ∧ rm.slots = ms ∧ rm.frames + 1 ≤ R.frames ∧ 8 + (maxL + 11) + rm.locals ≤ R.locals) (hf : cells + mc ≤ R.cells ∧ slots + ms ≤ R.slots) (hd : decode cc pc = .ok (.invokespecial index, 3))
    (kk : ∀ (w' : va_W) (H1 : Heap) (locs1 : List Loc), post w' → HI G A (w ++ w') s H1 locs1 → W p G.1 e R s m args below meth c H1 locs1 (cells + mc) (slots + ms) Q (F0 m (pc + 3) ls rest)) : W p G.1 e R s m args below meth c H locs cells slots Q (F0 m pc ls st) := by
  subst hst
  have hts := C.2.2.2.2.1
  have hK := C.2.2.2.2.2.1
  have hNe := C.2.2.2.2.2.2.1
  have hA := C.2.2.2.2.2.2.2.2.2
  have hP9 := B.1.sub (ws' := [(q, x)]) [w.length] (by simp)
  have hD9 := B.2.1.sub (ws' := [(q, x)]) [w.length] (by simp [va_nd]) (by simp)
  exact ri_back hA B (va_runIN (g := F0 m pc ls (As.reverse ++ .ref q :: rest)) (ri_fix C) (hM H.size) ⟨va_cnB n hts (Wd_gi hcw) rfl hR.1 hR.2.1 (hNe.1 (own, index, y) hN) (hts _ hini) hd3 hR.2.2, hy, hts _ him⟩ ⟨conI_blind, fun U hU hW => ⟨rfl, by rw [hU], by rw [hU]; exact hP9, va_K.moved hW.alike hK, hD9.weaken (fun _ _ _ _ => trivial), hNe.warm hW⟩⟩ rfl hn hl.1 rfl (lv_room (m := m) (pc := pc) (ls := ls) hrest) hd hf) kk
theorem ri_callI {y : MethodName} {bytes : ByteArray} {maxL n index mc ms : Nat} {rm : Room} {As : List Value} {post : va_W → Prop} {q : Nat} {x : va_E} (C : CI G p s m meth c args cc nL own A) (B : HI G A (w ++ [(q, x)]) s H locs) (hl : lv_has ls nL lv)
    (hM : ConI G y bytes maxL rm (.ref q :: As) [(q, x)] mc ms post) (hlk : Cond.methodLink own index y ∈ Wd) (hcw : Cond.code y bytes maxL none ∈ Wd) (hini : Cond.initialized y.cls ∈ Wd) (him : Cond.instanceMethod y ∈ Wd) (hy : y.name = "<init>") (hd3 : y.cls ≠ "java/lang/invoke/MethodHandle" ∧ y.cls ≠ "java/lang/invoke/VarHandle" ∧ (parseMethodDescriptor y.desc).map (fun d => d.parameters.length) = some n) (hn : As.length = n) (hst : st = As.reverse ++ .ref q :: rest) (hrest : (rest.map fun v => v.category).sum ≤ 8)
    (hR : rm.cells = mc ∧ rm.slots = ms ∧ rm.frames + 1 ≤ R.frames ∧ 8 + (maxL + 11) + rm.locals ≤ R.locals) (hf : cells + mc ≤ R.cells ∧ slots + ms ≤ R.slots) (hd : decode cc pc = .ok (.invokespecial index, 3))
    (kk : ∀ (w' : va_W) (H1 : Heap) (locs1 : List Loc), post w' → HI G A (w ++ w') s H1 locs1 → W p G.1 e R s m args below meth c H1 locs1 (cells + mc) (slots + ms) Q (F0 m (pc + 3) ls rest)) : W p G.1 e R s m args below meth c H locs cells slots Q (F0 m pc ls st) := by
  subst hst
  have hts := C.2.2.2.2.1
  have hK := C.2.2.2.2.2.1
  have hNe := C.2.2.2.2.2.2.1
  have hA := C.2.2.2.2.2.2.2.2.2
  have hP9 := B.1.sub (ws' := [(q, x)]) [w.length] (by simp)
  have hD9 := B.2.1.sub (ws' := [(q, x)]) [w.length] (by simp [va_nd]) (by simp)
  exact ri_back hA B (va_runI (g := F0 m pc ls (As.reverse ++ .ref q :: rest)) (ri_fix C) (hM H.size) (cwI n hts (Wd_gi hcw) rfl hR.1 hR.2.1 (hts _ hini) (hts _ hlk) (hts _ him) hy hd3 hR.2.2) ⟨conI_blind, fun U hU hW => ⟨rfl, by rw [hU], by rw [hU]; exact hP9, va_K.moved hW.alike hK, hD9.weaken (fun _ _ _ _ => trivial), hNe.warm hW⟩⟩ rfl hn hl.1 rfl (lv_room (m := m) (pc := pc) (ls := ls) hrest) hd hf) kk
theorem ri_mna {index : Nat} (C : CI G p s m meth c args cc nL own A) (B : HI G A w s H locs) (h1 : Cond.classLink own index "[[I" ∈ Wd) (h2 : Cond.arrayClass .int ∈ Wd) (hcells : cells + 4 ≤ R.cells) (hslots : slots + 123 ≤ R.slots) (hd : decode cc pc = .ok (.multianewarray index 2, 4))
    (kk : ∀ (q r0 r1 r2 : Nat) (H1 : Heap), HI G A (w ++ [(q, .inl (gcy G 4, 3, .inr (.inr (.inr (.inr (fun j => if j = 0 then some r0 else if j = 1 then some r1 else if j = 2 then some r2 else none)))))), (r0, .inl (gcy G 0, 40, .inl (fun _ => 0))), (r1, .inl (gcy G 0, 40, .inl (fun _ => 0))), (r2, .inl (gcy G 0, 40, .inl (fun _ => 0)))]) s H1 locs →
      W p G.1 e R s m args below meth c H1 locs (cells + 4) (slots + 123) Q (F0 m (pc + 4) ls (.ref q :: rest))) : W p G.1 e R s m args below meth c H locs cells slots Q (F0 m pc ls (.int 40 :: .int 3 :: rest)) := by
  have hts := C.2.2.2.2.1
  have hK := C.2.2.2.2.2.1
  have hO : (Cond.arrayOver (.array .int)).before args s = true := C.2.2.2.2.2.2.1.2
  have hcl : (Cond.classLink own index ("[" ++ (FieldType.array FieldType.int).toString)).before args s = true := by
    rw [show ("[" ++ (FieldType.array FieldType.int).toString) = "[[I" from by decide +kernel]
    exact hts _ h1
  have hcy : s.vm.findClass (FieldType.array FieldType.int).toString = some (gcy G 0) := by
    have q := (hK.2 0 _ rfl).2
    rw [show (FieldType.array FieldType.int).toString = "[I" from by decide +kernel]
    exact va_nm_int q
  have ez : ∀ c : ClassId, Jvm.Free.Multi.innerC c 40 (defaultValue FieldType.int) = vp_cell c (40, .inl (fun _ => 0)) := by
    intro c
    rw [show vp_cell c (40, .inl (fun _ => (0 : Int32))) = arrV c 40 (fun _ => .int 0) from rfl]
    show ({ cls := c, slots := Array.replicate 40 (.int 0), vm := .none } : Cell) = _
    exact arrV_new c 40 (.int 0)
  refine va_mna (X := w) (L := []) (f := fun _ => .inr (0, [])) (ty := .int) (z := (40, .inl (fun _ => 0))) (N' := 3) (K' := 40) C.1 C.2.1 C.2.2.2.1 hcl hO (hts _ h2) hcy hK (by show va_P _ _ (w ++ []) _; rw [List.append_nil]; exact B.1) (by show va_D _ (w ++ []); rw [List.append_nil]; exact B.2.1) B.2.2 C.2.2.2.2.2.2.2.2.2 (by decide) (by decide) rfl rfl (by decide) (by decide) (by decide) rfl rfl (by omega) (by omega) ez hd (fun q r cA H1 hr hrL hK2 hP hD hS => ?_)
  have e1 : s.vm.findClass ("[" ++ (FieldType.array FieldType.int).toString) = some cA := (hK2.2 5 (cA, .array .int) rfl).2
  have e2 : s.vm.findClass ("[" ++ (FieldType.array FieldType.int).toString) = some (gcy G 4) := (hK.2 4 _ rfl).2
  have e3 : cA = gcy G 4 := Option.some.inj (e1.symm.trans e2)
  subst e3
  have ef : (fun i => if i < 3 then some (r i) else none) = (fun j => if j = 0 then some (r 0) else if j = 1 then some (r 1) else if j = 2 then some (r 2) else none) := by
    funext i
    match i with
    | 0 => rfl
    | 1 => rfl
    | 2 => rfl
    | k + 3 => simp
  have er : ([] ++ (List.range 3).map r : List Nat) = [r 0, r 1, r 2] := rfl
  have ew : va_pl ([] ++ (List.range 3).map r) (vr_up (fun _ => (.inr (0, []) : va_E)) ((List.range 3).map r) (.inl (gcy G 0, 40, .inl (fun _ => 0)))) = [(r 0, .inl (gcy G 0, 40, .inl (fun _ => 0))), (r 1, .inl (gcy G 0, 40, .inl (fun _ => 0))), (r 2, .inl (gcy G 0, 40, .inl (fun _ => 0)))] := by
    rw [er, show (List.range 3).map r = [r 0, r 1, r 2] from rfl]
    simp [va_pl, vr_up]
  rw [ew, ef] at hP hD
  have hP : va_P (gD G) vwCl (w ++ [(q, .inl (gcy G 4, 3, .inr (.inr (.inr (.inr (fun j => if j = 0 then some (r 0) else if j = 1 then some (r 1) else if j = 2 then some (r 2) else none)))))), (r 0, .inl (gcy G 0, 40, .inl (fun _ => 0))), (r 1, .inl (gcy G 0, 40, .inl (fun _ => 0))), (r 2, .inl (gcy G 0, 40, .inl (fun _ => 0)))]) H1 := by
    rw [List.append_assoc] at hP
    exact hP
  have hD : va_D A (w ++ [(q, .inl (gcy G 4, 3, .inr (.inr (.inr (.inr (fun j => if j = 0 then some (r 0) else if j = 1 then some (r 1) else if j = 2 then some (r 2) else none)))))), (r 0, .inl (gcy G 0, 40, .inl (fun _ => 0))), (r 1, .inl (gcy G 0, 40, .inl (fun _ => 0))), (r 2, .inl (gcy G 0, 40, .inl (fun _ => 0)))]) := by
    rw [List.append_assoc] at hD
    exact hD
  exact kk q (r 0) (r 1) (r 2) H1 ⟨hP, hD, hS⟩
end RWI
