/-! ROWS: fields, arrays, returns; the words of the plain functions (nm, bd, gd ..) that the program lays -/
abbrev ST : Type := (Nat → Int32) × (Nat → Nat → Int32) × (Nat → Nat → Int64)
def sI (s : ST) (k : Nat) (v : Int32) : ST := (upd s.1 k v, s.2)
def sA (s : ST) (k : Nat) (f : Nat → Int32) : ST := (s.1, (fun j => if j = k then f else s.2.1 j), s.2.2)
def sJ (s : ST) (k : Nat) (f : Nat → Int64) : ST := (s.1, s.2.1, fun j => if j = k then f else s.2.2 j)
def nm {α β : Type} (e : α) (k : α → β) : β := k e
def bd {α β : Type} (o : Option α) (k : α → Option β) : Option β := match o with
  | some x => k x
  | none => none
def bd2 {α β γ : Type} (o : Option (α × β)) (k : α → β → Option γ) : Option γ := match o with
  | some x => k x.1 x.2
  | none => none
def gd {α : Type} (b : Bool) (k : Option α) : Option α := if b = true then k else none
def inb (i : Int32) (n : Nat) : Bool := decide (¬ (i < 0 ∨ n ≤ i.toNatClampNeg))
def bz (x : Int32) : Bool := x == 0 || x == 1
def cz (x : Int32) : Bool := (narrow .char (.int x) == .int x)
def sm {α β γ : Type} (e : α ⊕ β) (a : α → γ) (b : β → γ) : γ := match e with
  | .inl x => a x
  | .inr x => b x
def row3 {α : Type} (i : Int32) (a b c : Option α) : Option α := if i = 0 then a else if i = 1 then b else if i = 2 then c else none
theorem nm_o {α β : Type} {e : α} {k : α → Option β} {x : β} (h : nm e k = some x) : ∃ v, v = e ∧ k v = some x := ⟨e, rfl, h⟩
theorem bd_o {α β : Type} {o : Option α} {k : α → Option β} {x : β} (h : bd o k = some x) : ∃ v, o = some v ∧ k v = some x := by
  cases o with
  | none => cases h
  | some v => exact ⟨v, rfl, h⟩
theorem bd2_o {α β γ : Type} {o : Option (α × β)} {k : α → β → Option γ} {x : γ} (h : bd2 o k = some x) : ∃ v w, o = some (v, w) ∧ k v w = some x := by
  cases o with
  | none => cases h
  | some v => exact ⟨v.1, v.2, rfl, h⟩
theorem gd_o {α : Type} {b : Bool} {k : Option α} {x : α} (h : gd b k = some x) : b = true ∧ k = some x := by
  unfold gd at h
  by_cases hb : b = true
  · rw [if_pos hb] at h; exact ⟨hb, h⟩
  · rw [if_neg hb] at h; cases h
theorem ip {c : Prop} [Decidable c] {α : Type} {a b x : α} (h : (if c then a else b) = x) (hc : c) : a = x := by rw [if_pos hc] at h; exact h
theorem ig {c : Prop} [Decidable c] {α : Type} {a b x : α} (h : (if c then a else b) = x) (hc : ¬ c) : b = x := by rw [if_neg hc] at h; exact h
theorem sm_r {α β γ : Type} {e : α ⊕ β} {a : α → γ} {b : β → γ} {x : γ} (h : sm e a b = x) {ex : β} (q : e = .inr ex) : b ex = x := by subst q; exact h
theorem sm_l {α β γ : Type} {e : α ⊕ β} {a : α → γ} {b : β → γ} {x : γ} (h : sm e a b = x) {ex : α} (q : e = .inl ex) : a ex = x := by subst q; exact h
theorem row3_o {α : Type} {i : Int32} {a b c : Option α} {x : α} (h : row3 i a b c = some x) : (i = 0 ∧ a = some x) ∨ (i = 1 ∧ b = some x) ∨ (i = 2 ∧ c = some x) := by
  unfold row3 at h
  by_cases h0 : i = 0
  · rw [if_pos h0] at h; exact Or.inl ⟨h0, h⟩
  · rw [if_neg h0] at h
    by_cases h1 : i = 1
    · rw [if_pos h1] at h; exact Or.inr (Or.inl ⟨h1, h⟩)
    · rw [if_neg h1] at h
      by_cases h2 : i = 2
      · rw [if_pos h2] at h; exact Or.inr (Or.inr ⟨h2, h⟩)
      · rw [if_neg h2] at h; cases h
theorem inb_vp {i : Int32} {n : Nat} (h : inb i n = true) : vp_in i n := by
  have q : ¬ (i < 0 ∨ n ≤ i.toNatClampNeg) := of_decide_eq_true h
  exact q
theorem bz_nar {x : Int32} (h : bz x = true) : narrow .boolean (.int x) = .int x := by
  unfold bz at h
  rw [Bool.or_eq_true, beq_iff_eq, beq_iff_eq] at h
  rcases h with rfl | rfl <;> decide +kernel
theorem bz_vp {x : Int32} (h : bz x = true) : vp_nar .boolean x = x := by
  unfold vp_nar
  rw [bz_nar h]
theorem cz_nar {x : Int32} (h : cz x = true) : narrow .char (.int x) = .int x := beq_iff_eq.mp h
theorem cz_vp {x : Int32} (h : cz x = true) : vp_nar .char x = x := by
  unfold vp_nar
  rw [cz_nar h]
theorem rows_in {i : Int32} (h : i = 0 ∨ i = 1 ∨ i = 2) : vp_in i 3 := by
  unfold vp_in
  rcases h with rfl | rfl | rfl <;> decide
theorem ne_toInt {x k : Int32} (h : ¬ x = k) : x.toInt ≠ k.toInt := fun q => h (Int32.toInt_inj.mp q)
def FO (own : String) (index ci k : Nat) : Prop := ∃ (Cn : String) (T : u_T) (N : Nat), vwCl[ci]? = some (Cn, T, N) ∧ k < N ∧ (T k).1 = Cn ∧ Cond.fieldLink own index Cn (T k).2.1 (T k).2.2.1 ∈ Wd ∧ ∀ w ∈ u_ws Cn T N, w ∈ Wd
def FP (own : String) (index ci k : Nat) (ty : FieldType) : Prop := ∃ (Cn : String) (T : u_T) (N : Nat) (ty0 : Nat → FieldType), vwCl[ci]? = some (Cn, T, N) ∧ k < N ∧ (T k).1 = Cn ∧ Cond.fieldLink own index Cn (T k).2.1 (T k).2.2.1 ∈ Wd ∧ (∀ w ∈ u_ws Cn T N, w ∈ Wd) ∧ (T k).2.2.2 = false ∧ (∀ k, k < N → parseFieldDescriptor (T k).2.2.1 = some (ty0 k)) ∧ (∀ a, a < N → ∀ b, b < N → a ≠ b → (T a).2.1 ≠ (T b).2.1) ∧ parseFieldDescriptor (T k).2.2.1 = some ty
section RWS2
variable {p : Program} {l : Launch} {e : Env} {R : Room} {s : State} {m : MethodId} {args : Array Value} {below : List Frame} {meth : Method} {c : Code} {H : Heap} {locs : List Loc} {cells slots : Nat} {Q : State → Prop}
variable {cc : ByteArray} {pc nL : Nat} {ls : Array Slot} {rest st : List Value} {own : String} {G : GT} {lv lv' : List (Nat × Value)} {w w' : va_W}
/-- from every heap that holds the world, with these locals, at this place, the walk comes to Q -/
def Kn (G : GT) (p : Program) (e : Env) (R : Room) (s : State) (m : MethodId) (args : Array Value) (below : List Frame) (meth : Method) (c : Code) (Q : State → Prop) (nL pc : Nat) (lv : List (Nat × Value)) (w : va_W) : Prop :=
  ∀ (H : Heap) (locs : List Loc) (ls : Array Slot), HB G w s H locs → lv_has ls nL lv → W p G.1 e R s m args below meth c H locs 0 0 Q (F0 m pc ls [])
theorem r_kn (hk : Kn G p e R s m args below meth c Q nL pc lv w) (B : HB G w s H locs) (hl : lv_has ls nL lv') (ks : List Nat) (hs : lv_pick lv' ks = lv) : W p G.1 e R s m args below meth c H locs 0 0 Q (F0 m pc ls []) := hk H locs ls B (lv_sub hl ks hs)
theorem r_nm {x v : Int32} (hv : v = x) (k : W p l e R s m args below meth c H locs cells slots Q (F0 m pc ls (.int v :: rest))) : W p l e R s m args below meth c H locs cells slots Q (F0 m pc ls (.int x :: rest)) := by subst hv; exact k
theorem r_get {index ci k i a : Nat} {fs : List Value} {v : Value} (C : CT G p s m meth c args cc nL own) (B : HB G w s H locs) (F : FO own index ci k) (he : w[i]? = some (a, .inr (ci, fs))) (hv : fs[k]? = some v) (hd : decode cc pc = .ok (.getfield index, 3))
    (kk : W p l e R s m args below meth c H locs cells slots Q (F0 m (pc + 3) ls (v :: rest))) : W p l e R s m args below meth c H locs cells slots Q (F0 m pc ls (.ref a :: rest)) := by
  obtain ⟨Cn, T, N, h1, h2, h3, h4, h5⟩ := F
  have hts := C.2.2.2.2.1
  exact va_get (ref := Cn) C.1 C.2.1 hts h5 C.2.2.2.1 C.2.2.2.2.2.1 B.1 i he h1 k h2 (hts _ h4) (fun x hx => by rw [← h3]; exact hx) hv hd kk
theorem r_put {index ci k i a : Nat} {fs : List Value} {v : Value} {ty : FieldType} (C : CT G p s m meth c args cc nL own) (B : HB G w s H locs) (F : FP own index ci k ty) (he : w[i]? = some (a, .inr (ci, fs))) (hl : k < fs.length) (hn : narrow ty v = v) (hfit : fits ty v = true) (hw : w.set i (a, .inr (ci, fs.set k v)) = w') (hd : decode cc pc = .ok (.putfield index, 3))
    (kk : ∀ (H1 : Heap) (locs1 : List Loc), HB G w' s H1 locs1 → W p l e R s m args below meth c H1 locs1 cells slots Q (F0 m (pc + 3) ls rest)) : W p l e R s m args below meth c H locs cells slots Q (F0 m pc ls (v :: .ref a :: rest)) := by
  obtain ⟨Cn, T, N, ty0, h1, h2, h3, h4, h5, h6, h7, h8, h9⟩ := F
  have hts := C.2.2.2.2.1
  subst hw
  exact va_put (ref := Cn) C.1 C.2.1 hts h5 ty0 h7 h8 C.2.2.2.1 C.2.2.2.2.2.1 B.1 B.2.1 B.2.2 i he h1 k h2 (hts _ h4) (fun x hx => by rw [← h3]; exact hx) h6 h9 hn hfit hl hd (fun H1 locs1 hP hD hS => kk H1 locs1 ⟨hP, hD, hS⟩)
theorem r_iald {i a n : Nat} {f : Nat → Int32} {x : Int32} (C : CT G p s m meth c args cc nL own) (B : HB G w s H locs) (he : w[i]? = some (a, .inl (gcy G 0, n, .inl f))) (hin : vp_in x n) (hd : decode cc pc = .ok (.iaload, 1))
    (kk : W p l e R s m args below meth c H locs cells slots Q (F0 m (pc + 1) ls (.int (f x.toNatClampNeg) :: rest))) : W p l e R s m args below meth c H locs cells slots Q (F0 m pc ls (.int x :: .ref a :: rest)) := va_iald C.1 C.2.1 C.2.2.2.2.2.1 B.1 i 0 he rfl hin hd kk
theorem r_lald {i a n : Nat} {f : Nat → Int64} {x : Int32} (C : CT G p s m meth c args cc nL own) (B : HB G w s H locs) (he : w[i]? = some (a, .inl (gcy G 1, n, .inr (.inl f)))) (hin : vp_in x n) (hd : decode cc pc = .ok (.laload, 1))
    (kk : W p l e R s m args below meth c H locs cells slots Q (F0 m (pc + 1) ls (.long (f x.toNatClampNeg) :: rest))) : W p l e R s m args below meth c H locs cells slots Q (F0 m pc ls (.int x :: .ref a :: rest)) := va_lald C.1 C.2.1 C.2.2.2.2.2.1 B.1 i 1 he rfl hin hd kk
theorem r_cald {i a n : Nat} {f : Nat → Int32} {x : Int32} (C : CT G p s m meth c args cc nL own) (B : HB G w s H locs) (he : w[i]? = some (a, .inl (gcy G 2, n, .inl f))) (hin : vp_in x n) (hd : decode cc pc = .ok (.caload, 1))
    (kk : W p l e R s m args below meth c H locs cells slots Q (F0 m (pc + 1) ls (.int (f x.toNatClampNeg) :: rest))) : W p l e R s m args below meth c H locs cells slots Q (F0 m pc ls (.int x :: .ref a :: rest)) := va_cald C.1 C.2.1 C.2.2.2.2.2.1 B.1 i 2 he rfl hin hd kk
theorem r_zald {i a n : Nat} {f : Nat → Int32} {x : Int32} (C : CT G p s m meth c args cc nL own) (B : HB G w s H locs) (he : w[i]? = some (a, .inl (gcy G 3, n, .inl f))) (hin : vp_in x n) (hd : decode cc pc = .ok (.baload, 1))
    (kk : W p l e R s m args below meth c H locs cells slots Q (F0 m (pc + 1) ls (.int (f x.toNatClampNeg) :: rest))) : W p l e R s m args below meth c H locs cells slots Q (F0 m pc ls (.int x :: .ref a :: rest)) := va_zald C.1 C.2.1 C.2.2.2.2.2.1 B.1 i 3 he rfl hin hd kk
theorem r_aald {i a n b : Nat} {f : Nat → Option Nat} {x : Int32} (C : CT G p s m meth c args cc nL own) (B : HB G w s H locs) (he : w[i]? = some (a, .inl (gcy G 4, n, .inr (.inr (.inr (.inr f)))))) (hin : vp_in x n) (hf : f x.toNatClampNeg = some b) (hd : decode cc pc = .ok (.aaload, 1))
    (kk : W p l e R s m args below meth c H locs cells slots Q (F0 m (pc + 1) ls (.ref b :: rest))) : W p l e R s m args below meth c H locs cells slots Q (F0 m pc ls (.int x :: .ref a :: rest)) := by
  have hlt : x.toNatClampNeg < n := Nat.not_le.mp fun q => hin (Or.inr q)
  have kk : W p l e R s m args below meth c H locs cells slots Q (F0 m (pc + 1) ls (va_rf (f x.toNatClampNeg) :: rest)) := by rw [hf]; exact kk
  exact W.aald (v := va_rf (f x.toNatClampNeg)) (ty := .array .int) C.1 C.2.1 (B.1 i _ he) ((C.2.2.2.2.2.1.2 4 _ rfl).1 n (fun j => va_rf (f j))) rfl (fun q => by cases q) (by show ¬ (x < 0 ∨ (arrV _ _ _).slots.size ≤ _); rw [arrV_size]; exact hin) (by show (arrV _ _ _).slots[_]? = _; rw [arrV_read _ _ hlt]) rfl rfl hd kk
theorem r_iast {i a n : Nat} {f : Nat → Int32} {x v : Int32} (C : CT G p s m meth c args cc nL own) (B : HB G w s H locs) (he : w[i]? = some (a, .inl (gcy G 0, n, .inl f))) (hin : vp_in x n) (hw : w.set i (a, .inl (gcy G 0, n, .inl (upd f x.toNatClampNeg v))) = w') (hd : decode cc pc = .ok (.iastore, 1))
    (kk : ∀ (H1 : Heap) (locs1 : List Loc), HB G w' s H1 locs1 → W p l e R s m args below meth c H1 locs1 cells slots Q (F0 m (pc + 1) ls rest)) : W p l e R s m args below meth c H locs cells slots Q (F0 m pc ls (.int v :: .int x :: .ref a :: rest)) := by
  subst hw
  exact va_iast C.1 C.2.1 C.2.2.2.2.2.1 B.1 B.2.1 B.2.2 i 0 he rfl hin hd (fun H1 locs1 hP hD hS => kk H1 locs1 ⟨hP, hD, hS⟩)
theorem r_last {i a n : Nat} {f : Nat → Int64} {x : Int32} {v : Int64} (C : CT G p s m meth c args cc nL own) (B : HB G w s H locs) (he : w[i]? = some (a, .inl (gcy G 1, n, .inr (.inl f)))) (hin : vp_in x n) (hw : w.set i (a, .inl (gcy G 1, n, .inr (.inl (vp_updL f x.toNatClampNeg v)))) = w') (hd : decode cc pc = .ok (.lastore, 1))
    (kk : ∀ (H1 : Heap) (locs1 : List Loc), HB G w' s H1 locs1 → W p l e R s m args below meth c H1 locs1 cells slots Q (F0 m (pc + 1) ls rest)) : W p l e R s m args below meth c H locs cells slots Q (F0 m pc ls (.long v :: .int x :: .ref a :: rest)) := by
  subst hw
  exact va_last C.1 C.2.1 C.2.2.2.2.2.1 B.1 B.2.1 B.2.2 i 1 he rfl hin hd (fun H1 locs1 hP hD hS => kk H1 locs1 ⟨hP, hD, hS⟩)
theorem r_cast {i a n : Nat} {f : Nat → Int32} {x v : Int32} (C : CT G p s m meth c args cc nL own) (B : HB G w s H locs) (he : w[i]? = some (a, .inl (gcy G 2, n, .inl f))) (hin : vp_in x n) (hz : cz v = true) (hw : w.set i (a, .inl (gcy G 2, n, .inl (upd f x.toNatClampNeg v))) = w') (hd : decode cc pc = .ok (.castore, 1))
    (kk : ∀ (H1 : Heap) (locs1 : List Loc), HB G w' s H1 locs1 → W p l e R s m args below meth c H1 locs1 cells slots Q (F0 m (pc + 1) ls rest)) : W p l e R s m args below meth c H locs cells slots Q (F0 m pc ls (.int v :: .int x :: .ref a :: rest)) := by
  subst hw
  exact va_cast C.1 C.2.1 C.2.2.2.2.2.1 B.1 B.2.1 B.2.2 i 2 he rfl hin hd (fun H1 locs1 hP hD hS => kk H1 locs1 ⟨by rw [cz_vp hz] at hP; exact hP, by rw [cz_vp hz] at hD; exact hD, hS⟩)
theorem r_zast {i a n : Nat} {f : Nat → Int32} {x v : Int32} (C : CT G p s m meth c args cc nL own) (B : HB G w s H locs) (he : w[i]? = some (a, .inl (gcy G 3, n, .inl f))) (hin : vp_in x n) (hz : bz v = true) (hw : w.set i (a, .inl (gcy G 3, n, .inl (upd f x.toNatClampNeg v))) = w') (hd : decode cc pc = .ok (.bastore, 1))
    (kk : ∀ (H1 : Heap) (locs1 : List Loc), HB G w' s H1 locs1 → W p l e R s m args below meth c H1 locs1 cells slots Q (F0 m (pc + 1) ls rest)) : W p l e R s m args below meth c H locs cells slots Q (F0 m pc ls (.int v :: .int x :: .ref a :: rest)) := by
  subst hw
  exact va_zast C.1 C.2.1 C.2.2.2.2.2.1 B.1 B.2.1 B.2.2 i 3 he rfl hin hd (fun H1 locs1 hP hD hS => kk H1 locs1 ⟨by rw [bz_vp hz] at hP; exact hP, by rw [bz_vp hz] at hD; exact hD, hS⟩)
theorem r_iret {v : Int32} {ty : FieldType} (C : CT G p s m meth c args cc nL own) (B : HB G w' s H locs) (hr : meth.sig.returnType = some ty) (hn : narrow ty (.int v) = .int v) (hd : decode cc pc = .ok (.ireturn, 1)) : W p G.1 e R s m args below meth c H locs 0 0 (QR G below args s (some (.int v)) w') (F0 m pc ls [.int v]) :=
  W.zret C.1 C.2.1 hr hn (fun t ht hW => ⟨⟨rfl, C.wb B ht hW⟩, B.2.2.F ht⟩) B.2.2.2.2 hd C.2.2.2.2.2.2.2
theorem r_vret (C : CT G p s m meth c args cc nL own) (B : HB G w' s H locs) (hr : meth.sig.returnType = none) (hd : decode cc pc = .ok (.return_, 1)) : W p G.1 e R s m args below meth c H locs 0 0 (QR G below args s none w') (F0 m pc ls []) :=
  W.vret C.1 C.2.1 hr (fun t ht hW => ⟨⟨rfl, C.wb B ht hW⟩, B.2.2.F ht⟩) B.2.2.2.2 hd C.2.2.2.2.2.2.2
theorem r_lret {v : Int64} (C : CT G p s m meth c args cc nL own) (B : HB G w' s H locs) (hr : meth.sig.returnType = some .long) (hd : decode cc pc = .ok (.lreturn, 1)) : W p G.1 e R s m args below meth c H locs 0 0 (QR G below args s (some (.long v)) w') (F0 m pc ls [.long v]) :=
  W.lret C.1 C.2.1 hr (fun t ht hW => ⟨⟨rfl, C.wb B ht hW⟩, B.2.2.F ht⟩) B.2.2.2.2 hd C.2.2.2.2.2.2.2
theorem r_aret {a : Nat} {rt : String} (C : CT G p s m meth c args cc nL own) (B : HB G w' s H locs) (hr : meth.sig.returnType = some (.object rt)) (hd : decode cc pc = .ok (.areturn, 1)) : W p G.1 e R s m args below meth c H locs 0 0 (QR G below args s (some (.ref a)) w') (F0 m pc ls [.ref a]) :=
  W.aret C.1 C.2.1 hr (Or.inl ⟨_, rfl⟩) (Or.inr ⟨_, rfl⟩) (fun t ht hW => ⟨⟨rfl, C.wb B ht hW⟩, B.2.2.F ht⟩) B.2.2.2.2 hd C.2.2.2.2.2.2.2
theorem r_iretP {v : Int32} {ty : FieldType} (C : CT G p s m meth c args cc nL own) (hr : meth.sig.returnType = some ty) (hn : narrow ty (.int v) = .int v) (hd : decode cc pc = .ok (.ireturn, 1)) : W p G.1 e R s m args below meth c s.heap [] 0 0 (QP below args s (some (.int v))) (F0 m pc ls [.int v]) :=
  W.zret C.1 C.2.1 hr hn (fun t ht hW => ⟨rfl, ht⟩) (fun q hq => by cases hq) hd C.2.2.2.2.2.2.2
theorem r_vretP (C : CT G p s m meth c args cc nL own) (hr : meth.sig.returnType = none) (hd : decode cc pc = .ok (.return_, 1)) : W p G.1 e R s m args below meth c s.heap [] 0 0 (QP below args s none) (F0 m pc ls []) :=
  W.vret C.1 C.2.1 hr (fun t ht hW => ⟨rfl, ht⟩) (fun q hq => by cases hq) hd C.2.2.2.2.2.2.2
theorem r_aretP {a : Nat} {rt : String} (C : CT G p s m meth c args cc nL own) (hr : meth.sig.returnType = some (.object rt)) (hd : decode cc pc = .ok (.areturn, 1)) : W p G.1 e R s m args below meth c s.heap [] 0 0 (QP below args s (some (.ref a))) (F0 m pc ls [.ref a]) :=
  W.aret C.1 C.2.1 hr (Or.inl ⟨_, rfl⟩) (Or.inr ⟨_, rfl⟩) (fun t ht hW => ⟨rfl, ht⟩) (fun q hq => by cases hq) hd C.2.2.2.2.2.2.2
theorem r_ldcs {index k : Nat} {tx : String} (C : CT G p s m meth c args cc nL own) (hq : (own, index, tx, k) ∈ tx_refs) (hd : decode cc pc = .ok (.ldc index, 2)) (kk : W p l e R s m args below meth c H locs cells slots Q (F0 m (pc + 2) ls (.ref (gK G k) :: rest))) : W p l e R s m args below meth c H locs cells slots Q (F0 m pc ls rest) :=
  va_ldcS C.1 C.2.1 C.2.2.2.1 (C.2.2.2.2.2.2.1.2.2.2.2.1 (own, index, tx, k) hq) hd kk
theorem r_tab {dflt lo hi : Int} {offs : Array Int} {len : Nat} {x k : Int32} {off : Int} {tgt : Nat} (C : CT G p s m meth c args cc nL own) (hk : x = k) (hd : decode cc pc = .ok (.tableswitch dflt lo hi offs, len)) (h12 : (decide (lo ≤ k.toInt) && decide (k.toInt ≤ hi) && (offs[(k.toInt - lo).toNat]? == some off)) = true) (ht : (pc : Int) + off = (tgt : Int))
    (kk : W p l e R s m args below meth c H locs cells slots Q (F0 m tgt ls rest)) : W p l e R s m args below meth c H locs cells slots Q (F0 m pc ls (.int x :: rest)) := by
  subst hk
  rw [Bool.and_eq_true, Bool.and_eq_true, decide_eq_true_eq, decide_eq_true_eq, beq_iff_eq] at h12
  exact lv_tableIn C.1 C.2.1 hd (by omega) (by omega) h12.2 ht kk
variable {y : MethodName} {bytes : ByteArray} {maxL nA index i ci a : Nat} {ret : Option FieldType} {rm : Room} {As fs : List Value} {T : u_T} {N : Nat}
theorem r_callVi {r : Int32} (C : CT G p s m meth c args cc nL own) (B : HB G w s H locs) (hl : lv_has ls nL lv)
    (hM : Con G y bytes maxL ret rm (.ref a :: As) w (some (.int r)) w') (cs : CSV own index y bytes maxL ret nA) (he : w[i]? = some (a, .inr (ci, fs))) (hc : vwCl[ci]? = some (y.cls, T, N)) (hn : As.length = nA) (hst : st = As.reverse ++ .ref a :: rest) (hrest : (rest.map fun v => v.category).sum ≤ 8)
    (hR : rm.cells = 0 ∧ rm.slots = 0 ∧ rm.frames + 1 ≤ R.frames ∧ 8 + (maxL + 11) + rm.locals ≤ R.locals) (hd : decode cc pc = .ok (.invokevirtual index, 3))
    (kk : ∀ (H1 : Heap) (locs1 : List Loc), HB G w' s H1 locs1 → W p G.1 e R s m args below meth c H1 locs1 0 0 Q (F0 m (pc + 3) ls (.int r :: rest))) : W p G.1 e R s m args below meth c H locs 0 0 Q (F0 m pc ls st) :=
  r_callV C B hl hM cs he hc hn hst hrest hR ⟨Nat.zero_le _, Nat.zero_le _⟩ hd kk
theorem r_callVv (C : CT G p s m meth c args cc nL own) (B : HB G w s H locs) (hl : lv_has ls nL lv)
    (hM : Con G y bytes maxL ret rm (.ref a :: As) w none w') (cs : CSV own index y bytes maxL ret nA) (he : w[i]? = some (a, .inr (ci, fs))) (hc : vwCl[ci]? = some (y.cls, T, N)) (hn : As.length = nA) (hst : st = As.reverse ++ .ref a :: rest) (hrest : (rest.map fun v => v.category).sum ≤ 8)
    (hR : rm.cells = 0 ∧ rm.slots = 0 ∧ rm.frames + 1 ≤ R.frames ∧ 8 + (maxL + 11) + rm.locals ≤ R.locals) (hd : decode cc pc = .ok (.invokevirtual index, 3))
    (kk : ∀ (H1 : Heap) (locs1 : List Loc), HB G w' s H1 locs1 → W p G.1 e R s m args below meth c H1 locs1 0 0 Q (F0 m (pc + 3) ls rest)) : W p G.1 e R s m args below meth c H locs 0 0 Q (F0 m pc ls st) :=
  r_callV C B hl hM cs he hc hn hst hrest hR ⟨Nat.zero_le _, Nat.zero_le _⟩ hd kk
theorem r_callVa {r : Nat} (C : CT G p s m meth c args cc nL own) (B : HB G w s H locs) (hl : lv_has ls nL lv)
    (hM : Con G y bytes maxL ret rm (.ref a :: As) w (some (.ref r)) w') (cs : CSV own index y bytes maxL ret nA) (he : w[i]? = some (a, .inr (ci, fs))) (hc : vwCl[ci]? = some (y.cls, T, N)) (hn : As.length = nA) (hst : st = As.reverse ++ .ref a :: rest) (hrest : (rest.map fun v => v.category).sum ≤ 8)
    (hR : rm.cells = 0 ∧ rm.slots = 0 ∧ rm.frames + 1 ≤ R.frames ∧ 8 + (maxL + 11) + rm.locals ≤ R.locals) (hd : decode cc pc = .ok (.invokevirtual index, 3))
    (kk : ∀ (H1 : Heap) (locs1 : List Loc), HB G w' s H1 locs1 → W p G.1 e R s m args below meth c H1 locs1 0 0 Q (F0 m (pc + 3) ls (.ref r :: rest))) : W p G.1 e R s m args below meth c H locs 0 0 Q (F0 m pc ls st) :=
  r_callV C B hl hM cs he hc hn hst hrest hR ⟨Nat.zero_le _, Nat.zero_le _⟩ hd kk
theorem r_callSi {r : Int32} (C : CT G p s m meth c args cc nL own) (hS : va_S (gA G) s.heap H locs) (hl : lv_has ls nL lv)
    (hM : ConP G y bytes maxL ret rm As (some (.int r))) (cs : CSS own index y bytes maxL ret nA) (hn : As.length = nA) (hst : st = As.reverse ++ rest) (hrest : (rest.map fun v => v.category).sum ≤ 8)
    (hR : rm.cells = 0 ∧ rm.slots = 0 ∧ rm.frames + 1 ≤ R.frames ∧ 8 + (maxL + 11) + rm.locals ≤ R.locals) (hd : decode cc pc = .ok (.invokestatic index, 3))
    (kk : W p G.1 e R s m args below meth c H locs 0 0 Q (F0 m (pc + 3) ls (.int r :: rest))) : W p G.1 e R s m args below meth c H locs 0 0 Q (F0 m pc ls st) :=
  r_callS C hS hl hM cs hn hst hrest hR ⟨Nat.zero_le _, Nat.zero_le _⟩ hd kk
theorem r_callSv (C : CT G p s m meth c args cc nL own) (hS : va_S (gA G) s.heap H locs) (hl : lv_has ls nL lv)
    (hM : ConP G y bytes maxL ret rm As none) (cs : CSS own index y bytes maxL ret nA) (hn : As.length = nA) (hst : st = As.reverse ++ rest) (hrest : (rest.map fun v => v.category).sum ≤ 8)
    (hR : rm.cells = 0 ∧ rm.slots = 0 ∧ rm.frames + 1 ≤ R.frames ∧ 8 + (maxL + 11) + rm.locals ≤ R.locals) (hd : decode cc pc = .ok (.invokestatic index, 3))
    (kk : W p G.1 e R s m args below meth c H locs 0 0 Q (F0 m (pc + 3) ls rest)) : W p G.1 e R s m args below meth c H locs 0 0 Q (F0 m pc ls st) :=
  r_callS C hS hl hM cs hn hst hrest hR ⟨Nat.zero_le _, Nat.zero_le _⟩ hd kk
theorem r_callSa {r : Nat} (C : CT G p s m meth c args cc nL own) (hS : va_S (gA G) s.heap H locs) (hl : lv_has ls nL lv)
    (hM : ConP G y bytes maxL ret rm As (some (.ref r))) (cs : CSS own index y bytes maxL ret nA) (hn : As.length = nA) (hst : st = As.reverse ++ rest) (hrest : (rest.map fun v => v.category).sum ≤ 8)
    (hR : rm.cells = 0 ∧ rm.slots = 0 ∧ rm.frames + 1 ≤ R.frames ∧ 8 + (maxL + 11) + rm.locals ≤ R.locals) (hd : decode cc pc = .ok (.invokestatic index, 3))
    (kk : W p G.1 e R s m args below meth c H locs 0 0 Q (F0 m (pc + 3) ls (.ref r :: rest))) : W p G.1 e R s m args below meth c H locs 0 0 Q (F0 m pc ls st) :=
  r_callS C hS hl hM cs hn hst hrest hR ⟨Nat.zero_le _, Nat.zero_le _⟩ hd kk
/-- a string's own method: its receiver is the text's cell -/
theorem r_callTi {r : Int32} {k : Nat} (C : CT G p s m meth c args cc nL own) (hS : va_S (gA G) s.heap H locs) (hl : lv_has ls nL lv) (hk : k < 10) (hy : y.cls = "java/lang/String")
    (hM : ConP G y bytes maxL ret rm (.ref (gK G k) :: As) (some (.int r))) (cs : CSV own index y bytes maxL ret nA) (hn : As.length = nA) (hst : st = As.reverse ++ .ref (gK G k) :: rest) (hrest : (rest.map fun v => v.category).sum ≤ 8)
    (hR : rm.cells = 0 ∧ rm.slots = 0 ∧ rm.frames + 1 ≤ R.frames ∧ 8 + (maxL + 11) + rm.locals ≤ R.locals) (hd : decode cc pc = .ok (.invokevirtual index, 3))
    (kk : W p G.1 e R s m args below meth c H locs 0 0 Q (F0 m (pc + 3) ls (.int r :: rest))) : W p G.1 e R s m args below meth c H locs 0 0 Q (F0 m pc ls st) :=
  r_callVP C hS hl hM cs (by rw [hy]; exact vk_recv C.2.2.2.2.2.2.1.1 hk hS) hn hst hrest hR ⟨Nat.zero_le _, Nat.zero_le _⟩ hd kk
end RWS2
