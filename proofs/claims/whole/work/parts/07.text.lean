/-! TEXTS, the table LACKING, arraycopy, the nest mates' has: what is fixed outside the worlds -/
theorem nso {α : Type} {x : α} {P : Prop} (h : (none : Option α) = some x) : P := by cases h
theorem r_span {x : Int32} {lo hi : Int} (h : ∀ k : Int, lo ≤ k → k ≤ hi → x.toInt ≠ k) : x.toInt < lo ∨ hi < x.toInt := by
  by_cases a : x.toInt < lo
  · exact Or.inl a
  · by_cases b : hi < x.toInt
    · exact Or.inr b
    · exact absurd rfl (h x.toInt (by omega) (by omega))
def acp (sp dp n : Int32) (n0 n1 : Nat) : Bool := decide (¬ sp < 0 ∧ ¬ dp < 0 ∧ ¬ n < 0 ∧ sp.toNatClampNeg + n.toNatClampNeg ≤ n0 ∧ dp.toNatClampNeg + n.toNatClampNeg ≤ n1)
def CSN (own : String) (index : Nat) (y : MethodName) (bytes : ByteArray) (maxL : Nat) (ret : Option FieldType) (n : Nat) : Prop :=
  (own, index, y) ∈ nest_M ∧ Cond.code y bytes maxL ret ∈ Wd ∧ Cond.initialized y.cls ∈ Wd ∧ Cond.static y ∈ Wd ∧ (y.cls ≠ "java/lang/invoke/MethodHandle" ∧ y.cls ≠ "java/lang/invoke/VarHandle" ∧ (parseMethodDescriptor y.desc).map (fun d => d.parameters.length) = some n)
def txlen (k : Nat) : Option Int32 := gd (decide (k < 10)) (some (nI (tx_len.getD k 0)))
def txat (k : Nat) (i : Int32) : Option Int32 := gd (decide (k < 10) && inb i (tx_len.getD k 0)) (some ((tx_byt.getD k []).getD i.toNatClampNeg 0))
theorem txok_length {k : Nat} {r : Int32} (h : txlen k = some r) : k < 10 := of_decide_eq_true (gd_o h).1
theorem txok_charAt {k : Nat} {i r : Int32} (h : txat k i = some r) : k < 10 := by
  have q := (gd_o h).1
  rw [Bool.and_eq_true] at q
  exact of_decide_eq_true q.1
section RWS3
variable {p : Program} {l : Launch} {e : Env} {R : Room} {s : State} {m : MethodId} {args : Array Value} {below : List Frame} {meth : Method} {c : Code} {H : Heap} {locs : List Loc} {cells slots : Nat} {Q : State → Prop}
variable {cc : ByteArray} {pc nL : Nat} {ls : Array Slot} {rest st : List Value} {own : String} {G : GT} {lv lv' : List (Nat × Value)} {w w' : va_W}
theorem r_callSNi {y : MethodName} {bytes : ByteArray} {maxL nA index : Nat} {ret : Option FieldType} {rm : Room} {As : List Value} {r : Int32} (C : CT G p s m meth c args cc nL own) (hS : va_S (gA G) s.heap H locs) (hl : lv_has ls nL lv)
    (hM : ConP G y bytes maxL ret rm As (some (.int r))) (cs : CSN own index y bytes maxL ret nA) (hn : As.length = nA) (hst : st = As.reverse ++ rest) (hrest : (rest.map fun v => v.category).sum ≤ 8)
    (hR : rm.cells = 0 ∧ rm.slots = 0 ∧ rm.frames + 1 ≤ R.frames ∧ 8 + (maxL + 11) + rm.locals ≤ R.locals) (hd : decode cc pc = .ok (.invokestatic index, 3))
    (kk : W p G.1 e R s m args below meth c H locs 0 0 Q (F0 m (pc + 3) ls (.int r :: rest))) : W p G.1 e R s m args below meth c H locs 0 0 Q (F0 m pc ls st) :=
  r_callSN C hS hl hM cs.1 cs.2.1 cs.2.2.1 cs.2.2.2.1 cs.2.2.2.2 hn hst hrest hR ⟨Nat.zero_le _, Nat.zero_le _⟩ hd kk
theorem r_lack (C : CT G p s m meth c args cc nL RX1) (hS : va_S (gA G) s.heap H locs) (hd : decode cc pc = .ok (.getstatic 26, 3))
    (kk : W p l e R s m args below meth c H locs cells slots Q (F0 m (pc + 3) ls (.ref (gL G) :: rest))) : W p l e R s m args below meth c H locs cells slots Q (F0 m pc ls rest) := by
  have hE := C.2.2.2.2.2.2.1
  exact va_getsN C.1 C.2.1 hE.2.2.2.1.1 hS C.2.2.2.1 (va_Nw.use rfl hE.2.2.2.2.2.1) (fun _ h => h) hd kk
theorem r_lackld {i : Int32} (C : CT G p s m meth c args cc nL own) (hS : va_S (gA G) s.heap H locs) (hin : vp_in i 6) (hd : decode cc pc = .ok (.laload, 1))
    (kk : W p l e R s m args below meth c H locs cells slots Q (F0 m (pc + 1) ls (.long (lackJ i.toNatClampNeg) :: rest))) : W p l e R s m args below meth c H locs cells slots Q (F0 m pc ls (.int i :: .ref (gL G) :: rest)) :=
  va_tl C.1 C.2.1 C.2.2.2.2.2.2.1.2.2.2.1.2 hS hin rfl hd kk
theorem r_acp {i j a a0 n0 n1 index : Nat} {f g : Nat → Int32} {sp dp n : Int32} (C : CT G p s m meth c args cc nL own) (B : HB G w s H locs) (hl : lv_has ls nL lv) (w1 : Cond.methodLink own index arraycopyName ∈ Wd) (w2 : Cond.native arraycopyName ∈ Wd) (w3 : Cond.static arraycopyName ∈ Wd) (w4 : Cond.initialized "java/lang/System" ∈ Wd)
    (he0 : w[i]? = some (a0, .inl (gcy G 0, n0, .inl f))) (he1 : w[j]? = some (a, .inl (gcy G 0, n1, .inl g))) (hok : acp sp dp n n0 n1 = true) (hw : w.set j (a, .inl (gcy G 0, n1, .inl (va_cpy f g sp.toNatClampNeg dp.toNatClampNeg n.toNatClampNeg))) = w')
    (hf : 1 ≤ R.frames) (hlo : (rest.map fun v => v.category).sum + (nativeFrameWords "java/lang/System" "arraycopy" 5 + 11) ≤ R.locals) (hd : decode cc pc = .ok (.invokestatic index, 3))
    (kk : ∀ (H1 : Heap) (locs1 : List Loc), HB G w' s H1 locs1 → W p l e R s m args below meth c H1 locs1 cells slots Q (F0 m (pc + 3) ls rest)) : W p l e R s m args below meth c H locs cells slots Q (F0 m pc ls (.int n :: .int dp :: .ref a :: .int sp :: .ref a0 :: rest)) := by
  have h := of_decide_eq_true hok
  have hts := C.2.2.2.2.1
  subst hw
  exact va_copyi C.1 C.2.1 (C.2.2.1.trans hl.1.symm) C.2.2.2.1 (hts _ w1) (hts _ w2) (hts _ w3) (hts _ w4) C.2.2.2.2.2.1 B.1 B.2.1 B.2.2 i j 0 0 he0 he1 rfl rfl rfl h.1 h.2.1 h.2.2.1 h.2.2.2.1 h.2.2.2.2 (fun _ _ => rfl) hf hlo hd (fun H1 locs1 hP hD hS => kk H1 locs1 ⟨hP, hD, hS⟩)
end RWS3
def rm_0 : Room := { frames := 0, cells := 0, slots := 0, locals := 0 }
def rm_J0ck : Room := { frames := 1, cells := 0, slots := 0, locals := 22 }
def rm_J1ch : Room := { frames := 2, cells := 0, slots := 0, locals := 43 }
def rm_Tlength : Room := { frames := 1, cells := 0, slots := 0, locals := 20 }
def rm_TcharAt : Room := { frames := 3, cells := 0, slots := 0, locals := 64 }
