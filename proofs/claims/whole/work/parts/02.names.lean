/-! ===== BEGIN words of one list among another's, by their places ===== -/
theorem goodIn_r {big : List Cond} (ws : List Cond) (ps : List Nat) (hp : ws = ps.filterMap (fun i => big[i]?)) (h : ws.all goodWord = true) : GoodIn big ws := by
  intro w hw
  have h1 := List.all_eq_true.mp h w hw
  rw [hp] at hw
  obtain ⟨i, -, hi⟩ := List.mem_filterMap.mp hw
  have hm : w ∈ big := by first | exact List.mem_of_getElem? hi | exact List.getElem?_mem hi
  exact ⟨hm, good_of_word h1⟩
theorem goodIn_app {big a b : List Cond} (ha : GoodIn big a) (hb : GoodIn big b) : GoodIn big (a ++ b) := fun w h => (List.mem_append.mp h).elim (ha w) (hb w)
theorem goodIn_ca {big a b : List Cond} {c : Cond} (ha : GoodIn big (c :: a)) (hb : GoodIn big b) : GoodIn big (c :: (a ++ b)) := fun w h => (List.mem_cons.mp h).elim (fun e => ha w (List.mem_cons.mpr (Or.inl e))) (fun h => (List.mem_append.mp h).elim (fun h => ha w (List.mem_cons.mpr (Or.inr h))) (hb w))
theorem goodIn_sub {big ws : List Cond} (hm : ∀ w ∈ ws, w ∈ big) (h : ws.all goodWord = true) : GoodIn big ws := fun w hw => ⟨hm w hw, good_of_word (List.all_eq_true.mp h w hw)⟩
/-! ===== END ===== -/

/-! ===== BEGIN new T[n][m]: the outer array a place, the inner ones among the pooled ===== -/
/-- f, but v at every address of l -/
def vr_up {α : Type} (f : Nat → α) (l : List Nat) (v : α) : Nat → α := fun a => if a ∈ l then v else f a
theorem vr_up_in {α : Type} {f : Nat → α} {l : List Nat} {v : α} {a : Nat} (h : a ∈ l) : vr_up f l v a = v := if_pos h
theorem vr_up_ne {α : Type} {f : Nat → α} {l : List Nat} {v : α} {a : Nat} (h : a ∉ l) : vr_up f l v a = f a := if_neg h
theorem vr_rows {L l : List Nat} {f : Nat → va_E} {e : va_E} (h : ∀ a, a ∈ l → a ∉ L) : va_pl L f ++ l.map (fun a => (a, e)) = va_pl (L ++ l) (vr_up f l e) := by
  unfold va_pl
  rw [List.map_append]
  congr 1
  · apply List.map_congr_left
    intro a ha
    rw [vr_up_ne (fun q => h a q ha)]
  · apply List.map_congr_left
    intro a ha
    rw [vr_up_in ha]
theorem vr_lay {X rows : va_W} {x : Nat × va_E} {pl : va_W} {D : va_G} {cl : List vw_C} {H : Heap} (hP : va_P D cl (((X ++ pl) ++ [x]) ++ rows) H) : va_P D cl ((X ++ [x]) ++ (pl ++ rows)) H := by
  rw [List.append_assoc (X ++ pl)] at hP
  have h := va_P.swap hP
  rw [← List.append_assoc X] at h
  have h2 := va_P.swap h
  rw [List.append_assoc (X ++ [x])] at h2
  exact h2
theorem vr_layD {X rows : va_W} {x : Nat × va_E} {pl : va_W} {A : Nat → Prop} (hD : va_D A (((X ++ pl) ++ [x]) ++ rows)) : va_D A ((X ++ [x]) ++ (pl ++ rows)) := by
  rw [List.append_assoc (X ++ pl)] at hD
  have h := va_D.swap hD
  rw [← List.append_assoc X] at h
  have h2 := va_D.swap h
  rw [List.append_assoc (X ++ [x])] at h2
  exact h2
theorem vr_outer (c : ClassId) (N h0 : Nat) : ∀ i : Nat, Jvm.Free.Multi.outerC c N h0 i = arrV c N (fun j => va_rf (if j < i then some (h0 + 1 + j) else none))
  | 0 => by
    show ({ cls := c, slots := Array.replicate N .null, vm := .none } : Cell) = _
    rw [arrV_new]
    refine congrArg (arrV c N) (funext fun j => ?_)
    simp [va_rf]
  | i + 1 => by
    show (Jvm.Free.Multi.outerC c N h0 i).setSlot i (.ref (h0 + 1 + i)) = _
    rw [vr_outer c N h0 i, arrV_store]
    refine congrArg (arrV c N) (funext fun j => ?_)
    by_cases e : j = i
    · subst e
      simp [updV, va_rf]
    · by_cases h : j < i
      · simp [updV, e, h, Nat.lt_succ_of_lt h]
      · simp [updV, e, h, show ¬ j < i + 1 by omega]
section VGM
variable {p : Program} {l : Launch} {e : Env} {R : Room} {s : State} {m : MethodId} {args : Array Value} {below : List Frame} {meth : Method} {c : Code} {H : Heap} {locs : List Loc} {cells slots : Nat} {Q : State → Prop}
variable {cc : ByteArray} {pc : Nat} {ls : Array Slot} {rest : List Value} {D : va_G} {cl : List vw_C} {A : Nat → Prop} {a : Nat} {tys : List (ClassId × FieldType)} {ws : va_W} {H0 : Heap}
theorem va_mna {X : va_W} {L : List Nat} {f : Nat → va_E} {cc : ByteArray} (hexec : p.tables.exec = Jvm.exec) (hb : c.code = cc) {own : String} {index : Nat} {ty : FieldType} {cy : ClassId} (hown : s.vm.findClass own = some m.cls) (hclink : (Cond.classLink own index ("[" ++ (FieldType.array ty).toString)).before args s = true) (hover : (Cond.arrayOver (.array ty)).before args s = true) (harr : (Cond.arrayClass ty).before args s = true) (hcy : s.vm.findClass (FieldType.array ty).toString = some cy)
    (hK : va_K D cl tys s) (hP : va_P D cl (X ++ va_pl L f) H) (hD : va_D A (X ++ va_pl L f)) (hS : va_S A H0 H locs) (hA : ∀ q, H0.size ≤ q → A q) {n k : Int32} {N' K' : Nat} {z : vp_A} (hn : ¬ n < 0) (hk : ¬ k < 0) (hN : n.toNatClampNeg = N') (hM : k.toNatClampNeg = K')
    (hb1 : N' * 4 ≤ 536870912) (hb2 : K' * componentBytes ty ≤ 536870912) (hb3 : K' ≤ 536870912) (hdf : fits ty (defaultValue ty) = true) (hdd : (defaultValue ty).isDefault = true) (hcells : cells + (1 + N') ≤ R.cells) (hslots : slots + (N' + N' * K') ≤ R.slots) (hz : ∀ c : ClassId, Jvm.Free.Multi.innerC c K' (defaultValue ty) = vp_cell c z) (hdg : decode cc pc = .ok (.multianewarray index 2, 4))
    (kk : ∀ (q : Nat) (r : Nat → Nat) (cA : ClassId) (H1 : Heap), (∀ i j : Nat, i < N' → j < N' → r i = r j → i = j) → (∀ i : Nat, i < N' → r i ∉ L) → va_K D cl (tys ++ [(cA, .array ty)]) s →
      va_P D cl ((X ++ [(q, .inl (cA, N', .inr (.inr (.inr (.inr (fun i => if i < N' then some (r i) else none))))))]) ++ va_pl (L ++ (List.range N').map r) (vr_up f ((List.range N').map r) (.inl (cy, z)))) H1 → va_D A ((X ++ [(q, .inl (cA, N', .inr (.inr (.inr (.inr (fun i => if i < N' then some (r i) else none))))))]) ++ va_pl (L ++ (List.range N').map r) (vr_up f ((List.range N').map r) (.inl (cy, z)))) → va_S A H0 H1 locs →
      W p l e R s m args below meth c H1 locs (cells + 1 + N') (slots + N' + N' * K') Q (F0 m (pc + 4) ls (.ref q :: rest))) : W p l e R s m args below meth c H locs cells slots Q (F0 m pc ls (.int k :: .int n :: rest)) := by
  subst hN
  subst hM
  intro T hT Xs
  obtain ⟨vm₁, cA, comp, -, fA, fC, hO, -, X', step⟩ := Xs.multianewarray2F hexec hown hclink hover harr (g := F0 m pc ls (.int k :: .int n :: rest)) rfl (by rw [hb]; exact hdg) rfl hn hk hb1 hb2 hb3 hdf hdd hcells hslots
  have ec : some cy = some comp := hcy.symm.trans fC
  cases ec
  generalize hF : Jvm.Free.Multi.fill (T.setVm vm₁) cA cy n.toNatClampNeg k.toNatClampNeg (defaultValue ty) n.toNatClampNeg = F at X' step
  have hTh : (T.setVm vm₁).heap = H := hT
  obtain ⟨f1, f2, -, -⟩ := Jvm.Free.Multi.fill_facts (T.setVm vm₁) cA cy n.toNatClampNeg k.toNatClampNeg (defaultValue ty) n.toNatClampNeg
  rw [hF, hTh] at f1 f2
  have hold : ∀ x : Nat, x < H.size → F.heap[x]? = H[x]? := fun x hx => by
    have := Jvm.Free.Multi.fill_old (T.setVm vm₁) cA cy n.toNatClampNeg k.toNatClampNeg (defaultValue ty) (a := x) (by rw [hTh]; exact hx) n.toNatClampNeg
    rw [hF, hTh] at this
    exact this
  have hrow : ∀ j : Nat, j < n.toNatClampNeg → F.heap[H.size + 1 + j]? = some (vp_cell cy z) := fun j hj => by
    have := Jvm.Free.Multi.fill_inner (T.setVm vm₁) cA cy n.toNatClampNeg k.toNatClampNeg (defaultValue ty) n.toNatClampNeg j hj
    rw [hF, hTh, hz] at this
    exact this
  have hout : Jvm.Free.Multi.outerC cA n.toNatClampNeg H.size n.toNatClampNeg = vp_cell cA (n.toNatClampNeg, .inr (.inr (.inr (.inr (fun i => if i < n.toNatClampNeg then some (H.size + 1 + i) else none))))) := by
    rw [vp_cell_q]
    exact vr_outer cA n.toNatClampNeg H.size n.toNatClampNeg
  rw [hout] at f2
  have hlt : ∀ a, a ∈ L → a < H.size := fun a ha => by
    obtain ⟨k9, hk9⟩ := va_pl_get (X := X) (f := f) ha
    exact (hP k9 _ hk9).lt
  have hnl : ∀ i : Nat, i < n.toNatClampNeg → H.size + 1 + i ∉ L := fun i _ h => by
    have := hlt _ h
    omega
  have hnm : ∀ a, a ∈ (List.range n.toNatClampNeg).map (fun i => H.size + 1 + i) → a ∉ L := fun a ha h => by
    obtain ⟨i, -, rfl⟩ := List.mem_map.mp ha
    have := hlt _ h
    omega
  have hP0 : va_P D cl (X ++ va_pl L f) F.heap := hP.kept (fun k9 x hx => hold x.1 ((hP k9 x hx).lt))
  have hP1 : va_P D cl ((X ++ va_pl L f) ++ [(H.size, .inl (cA, n.toNatClampNeg, .inr (.inr (.inr (.inr (fun i => if i < n.toNatClampNeg then some (H.size + 1 + i) else none))))))]) F.heap := hP0.app (fun k9 x hx => by
    have h0 : k9 < 1 := (List.getElem?_eq_some_iff.mp hx).1
    rw [show k9 = 0 by omega] at hx
    cases hx
    exact f2)
  have hP2 : va_P D cl (((X ++ va_pl L f) ++ [(H.size, .inl (cA, n.toNatClampNeg, .inr (.inr (.inr (.inr (fun i => if i < n.toNatClampNeg then some (H.size + 1 + i) else none))))))]) ++ ((List.range n.toNatClampNeg).map (fun i => H.size + 1 + i)).map (fun a => (a, .inl (cy, z)))) F.heap := hP1.app (fun k9 x hx => by
    obtain ⟨a, ha, rfl⟩ := List.mem_map.mp (List.mem_of_getElem? hx)
    obtain ⟨i, hi, rfl⟩ := List.mem_map.mp ha
    exact hrow i (List.mem_range.mp hi))
  have hD2 : va_D A (((X ++ va_pl L f) ++ [(H.size, .inl (cA, n.toNatClampNeg, .inr (.inr (.inr (.inr (fun i => if i < n.toNatClampNeg then some (H.size + 1 + i) else none))))))]) ++ ((List.range n.toNatClampNeg).map (fun i => H.size + 1 + i)).map (fun a => (a, .inl (cy, z)))) := by
    have hD1 := hD.push (e := .inl (cA, n.toNatClampNeg, .inr (.inr (.inr (.inr (fun i => if i < n.toNatClampNeg then some (H.size + 1 + i) else none)))))) hP rfl (hA _ hS.1)
    generalize hW1 : (X ++ va_pl L f) ++ [(H.size, .inl (cA, n.toNatClampNeg, .inr (.inr (.inr (.inr (fun i => if i < n.toNatClampNeg then some (H.size + 1 + i) else none))))))] = W1 at hD1 hP1 ⊢
    have hle : ∀ (k9 : Nat) (x : Nat × va_E), W1[k9]? = some x → x.1 ≤ H.size := fun k9 x hx => by
      rw [← hW1] at hx
      by_cases hl : k9 < (X ++ va_pl L f).length
      · rw [List.getElem?_append_left hl] at hx
        exact Nat.le_of_lt ((hP k9 x hx).lt)
      · rw [List.getElem?_append_right (by omega)] at hx
        have h0 : k9 - (X ++ va_pl L f).length < 1 := (List.getElem?_eq_some_iff.mp hx).1
        rw [show k9 - (X ++ va_pl L f).length = 0 by omega] at hx
        cases hx
        exact Nat.le_refl _
    have hr : ∀ (k9 : Nat) (x : Nat × va_E), (((List.range n.toNatClampNeg).map (fun i => H.size + 1 + i)).map (fun a => ((a, .inl (cy, z)) : Nat × va_E)))[k9]? = some x → x.1 = H.size + 1 + k9 := fun k9 x hx => by
      rw [List.getElem?_map, List.getElem?_map] at hx
      by_cases h9 : k9 < n.toNatClampNeg
      · rw [List.getElem?_range h9] at hx
        cases hx
        rfl
      · have hn0 : (List.range n.toNatClampNeg)[k9]? = none := List.getElem?_eq_none (by rw [List.length_range]; omega)
        rw [hn0] at hx
        cases hx
    refine ⟨fun i j x y hi hj hxy => ?_, fun k9 x hx => ?_⟩
    · by_cases h1 : i < W1.length <;> by_cases h2 : j < W1.length
      · rw [List.getElem?_append_left h1] at hi
        rw [List.getElem?_append_left h2] at hj
        exact hD1.1 i j x y hi hj hxy
      · rw [List.getElem?_append_left h1] at hi
        rw [List.getElem?_append_right (by omega)] at hj
        have := hle _ _ hi
        have := hr _ _ hj
        omega
      · rw [List.getElem?_append_right (by omega)] at hi
        rw [List.getElem?_append_left h2] at hj
        have := hle _ _ hj
        have := hr _ _ hi
        omega
      · rw [List.getElem?_append_right (by omega)] at hi hj
        have := hr _ _ hi
        have := hr _ _ hj
        omega
    · by_cases h1 : k9 < W1.length
      · rw [List.getElem?_append_left h1] at hx
        exact hD1.2 k9 x hx
      · rw [List.getElem?_append_right (by omega)] at hx
        have := hr _ _ hx
        exact hA _ (by have := hS.1; omega)
  have hAr : ArrOfT s cA (.array ty) := fun N9 z9 => by
    obtain ⟨-, k9, hk9, cm9, hkk9⟩ := (hO 0 0 0).1
    exact ⟨(fun q hq => by cases hq), k9, hk9, cm9, hkk9⟩
  have hK2 : va_K D cl (tys ++ [(cA, .array ty)]) s := ⟨hK.1, fun k9 x hx => by
    by_cases hl : k9 < tys.length
    · rw [List.getElem?_append_left hl] at hx
      exact hK.2 k9 x hx
    · rw [List.getElem?_append_right (by omega)] at hx
      have h0 : k9 - tys.length < 1 := (List.getElem?_eq_some_iff.mp hx).1
      rw [show k9 - tys.length = 0 by omega] at hx
      cases hx
      exact ⟨hAr, fA⟩⟩
  obtain ⟨t, a1, b1⟩ := kk H.size (fun i => H.size + 1 + i) cA F.heap (fun i j _ _ h => by have h9 : H.size + 1 + i = H.size + 1 + j := h; omega) hnl hK2 (by rw [← vr_rows hnm]; exact vr_lay hP2) (by rw [← vr_rows hnm]; exact vr_layD hD2) ⟨by rw [f1]; have := hS.1; omega, fun x h1 h2 => (hold x (Nat.lt_of_lt_of_le h1 hS.1)).trans (hS.2.1 x h1 h2), hS.2.2⟩ F rfl X'
  refine ⟨t, step t ?_, b1⟩
  have e : T.heap.size = H.size := by rw [hT]
  rw [e]
  exact a1
end VGM
/-! ===== END ===== -/

/-! ===== BEGIN printed: names, fields, word lists, decode rows ===== -/
def RX0 : String := "RoadLinks$Choice"
def TX0 : u_T := fun k => match k with
  | 0 => ("RoadLinks$Choice", "items", "I", false)
  | 1 => ("RoadLinks$Choice", "chosen", "[I", true)
  | 2 => ("RoadLinks$Choice", "asked", "[I", true)
  | _ => ("RoadLinks$Choice", "ends", "[Z", true)
def tyX0 : Nat → FieldType := fun k => match k with
  | 0 => .int
  | 1 => .array .int
  | 2 => .array .int
  | _ => .array .boolean
abbrev wsX00 : List Cond := u_ws RX0 TX0 4
theorem nmX0 : ∀ a, a < 4 → ∀ b, b < 4 → a ≠ b → (TX0 a).2.1 ≠ (TX0 b).2.1 := by decide +kernel
theorem tyX0_ok : ∀ k, k < 4 → parseFieldDescriptor (TX0 k).2.2.1 = some (tyX0 k) := by decide +kernel
abbrev cX0_init : ByteArray := prog_2_method_1_code
def yX0_init : MethodName := ⟨RX0, "<init>", "()V"⟩
abbrev cX0_begin : ByteArray := prog_2_method_2_code
def yX0_begin : MethodName := ⟨RX0, "begin", "()V"⟩
abbrev cX0_ask : ByteArray := prog_2_method_3_code
def yX0_ask : MethodName := ⟨RX0, "ask", "(I)V"⟩
abbrev cX0_isMade : ByteArray := prog_2_method_4_code
def yX0_isMade : MethodName := ⟨RX0, "isMade", "(I)Z"⟩
abbrev cX0_leastOption : ByteArray := prog_2_method_5_code
def yX0_leastOption : MethodName := ⟨RX0, "leastOption", "(III)I"⟩
def RX1 : String := "RoadLinks$Matched"
def TX1 : u_T := fun k => match k with
  | 0 => ("RoadLinks$Matched", "bits", "[J", true)
  | _ => ("RoadLinks$Matched", "before", "[J", true)
def tyX1 : Nat → FieldType := fun k => match k with
  | 0 => .array .long
  | _ => .array .long
abbrev wsX10 : List Cond := u_ws RX1 TX1 2
theorem nmX1 : ∀ a, a < 2 → ∀ b, b < 2 → a ≠ b → (TX1 a).2.1 ≠ (TX1 b).2.1 := by decide +kernel
theorem tyX1_ok : ∀ k, k < 2 → parseFieldDescriptor (TX1 k).2.2.1 = some (tyX1 k) := by decide +kernel
abbrev cX1_init : ByteArray := prog_3_method_1_code
def yX1_init : MethodName := ⟨RX1, "<init>", "()V"⟩
abbrev cX1_begin : ByteArray := prog_3_method_2_code
def yX1_begin : MethodName := ⟨RX1, "begin", "()V"⟩
abbrev cX1_join : ByteArray := prog_3_method_3_code
def yX1_join : MethodName := ⟨RX1, "join", "(I)V"⟩
abbrev cX1_spread : ByteArray := prog_3_method_4_code
def yX1_spread : MethodName := ⟨RX1, "spread", "(I)V"⟩
abbrev cX1_holds : ByteArray := prog_3_method_5_code
def yX1_holds : MethodName := ⟨RX1, "holds", "(I)Z"⟩
abbrev cX1_isLike : ByteArray := prog_3_method_6_code
def yX1_isLike : MethodName := ⟨RX1, "isLike", "(LRoadLinks$Matched;)Z"⟩
def RX2 : String := "RoadLinks$Ranks"
def TX2 : u_T := fun k => match k with
  | 0 => ("RoadLinks$Ranks", "matched", "LRoadLinks$Matched;", true)
  | 1 => ("RoadLinks$Ranks", "trial", "LRoadLinks$Matched;", true)
  | 2 => ("RoadLinks$Ranks", "byTurned", "[I", true)
  | 3 => ("RoadLinks$Ranks", "byFamily", "[I", true)
  | 4 => ("RoadLinks$Ranks", "posts", "I", false)
  | 5 => ("RoadLinks$Ranks", "all", "I", false)
  | _ => ("RoadLinks$Ranks", "madeAt", "I", false)
def tyX2 : Nat → FieldType := fun k => match k with
  | 0 => .object "RoadLinks$Matched"
  | 1 => .object "RoadLinks$Matched"
  | 2 => .array .int
  | 3 => .array .int
  | 4 => .int
  | 5 => .int
  | _ => .int
abbrev wsX20 : List Cond := u_ws RX2 TX2 7
theorem nmX2 : ∀ a, a < 7 → ∀ b, b < 7 → a ≠ b → (TX2 a).2.1 ≠ (TX2 b).2.1 := by decide +kernel
theorem tyX2_ok : ∀ k, k < 7 → parseFieldDescriptor (TX2 k).2.2.1 = some (tyX2 k) := by decide +kernel
abbrev cX2_init : ByteArray := prog_4_method_1_code
def yX2_init : MethodName := ⟨RX2, "<init>", "()V"⟩
abbrev cX2_refresh : ByteArray := prog_4_method_2_code
def yX2_refresh : MethodName := ⟨RX2, "refresh", "(LRoadLinks$Table;)V"⟩
abbrev cX2_fill : ByteArray := prog_4_method_3_code
def yX2_fill : MethodName := ⟨RX2, "fill", "([ILRoadLinks$Matched;)V"⟩
abbrev cX2_greatestWithin : ByteArray := prog_4_method_4_code
def yX2_greatestWithin : MethodName := ⟨RX2, "greatestWithin", "([II)I"⟩
abbrev cX2_of : ByteArray := prog_4_method_5_code
def yX2_of : MethodName := ⟨RX2, "of", "(II)I"⟩
abbrev cX2_isFree : ByteArray := prog_4_method_6_code
def yX2_isFree : MethodName := ⟨RX2, "isFree", "(II)Z"⟩
abbrev cX2_isBase : ByteArray := prog_4_method_7_code
def yX2_isBase : MethodName := ⟨RX2, "isBase", "(II)Z"⟩
abbrev cX2_isOf : ByteArray := prog_4_method_8_code
def yX2_isOf : MethodName := ⟨RX2, "isOf", "(III)Z"⟩
abbrev cX2_isCircuit : ByteArray := prog_4_method_9_code
def yX2_isCircuit : MethodName := ⟨RX2, "isCircuit", "(II)Z"⟩
abbrev cX2_shutOf : ByteArray := prog_4_method_10_code
def yX2_shutOf : MethodName := ⟨RX2, "shutOf", "(II)I"⟩
abbrev cX2_boundOf : ByteArray := prog_4_method_11_code
def yX2_boundOf : MethodName := ⟨RX2, "boundOf", "(I)I"⟩
abbrev cX2_roundOf : ByteArray := prog_4_method_12_code
def yX2_roundOf : MethodName := ⟨RX2, "roundOf", "(II)I"⟩
abbrev cX2_swapOf : ByteArray := prog_4_method_13_code
def yX2_swapOf : MethodName := ⟨RX2, "swapOf", "(III)I"⟩
abbrev cX2_stepsUp : ByteArray := prog_4_method_14_code
def yX2_stepsUp : MethodName := ⟨RX2, "stepsUp", "(II)I"⟩
abbrev cX2_stays : ByteArray := prog_4_method_15_code
def yX2_stays : MethodName := ⟨RX2, "stays", "(LRoadLinks$Table;II)Z"⟩
def RX3 : String := "RoadLinks$Speller"
def TX3 : u_T := fun k => match k with
  | 0 => ("RoadLinks$Speller", "text", "[C", true)
  | 1 => ("RoadLinks$Speller", "length", "I", false)
  | _ => ("RoadLinks$Speller", "madeAt", "I", false)
def tyX3 : Nat → FieldType := fun k => match k with
  | 0 => .array .char
  | 1 => .int
  | _ => .int
abbrev wsX30 : List Cond := u_ws RX3 TX3 3
theorem nmX3 : ∀ a, a < 3 → ∀ b, b < 3 → a ≠ b → (TX3 a).2.1 ≠ (TX3 b).2.1 := by decide +kernel
theorem tyX3_ok : ∀ k, k < 3 → parseFieldDescriptor (TX3 k).2.2.1 = some (tyX3 k) := by decide +kernel
abbrev cX3_init : ByteArray := prog_5_method_1_code
def yX3_init : MethodName := ⟨RX3, "<init>", "()V"⟩
abbrev cX3_spell : ByteArray := prog_5_method_2_code
def yX3_spell : MethodName := ⟨RX3, "spell", "(LRoadLinks$Table;)V"⟩
abbrev cX3_writeRoads : ByteArray := prog_5_method_3_code
def yX3_writeRoads : MethodName := ⟨RX3, "writeRoads", "(LRoadLinks$Table;)V"⟩
abbrev cX3_writePostsOf : ByteArray := prog_5_method_4_code
def yX3_writePostsOf : MethodName := ⟨RX3, "writePostsOf", "(Ljava/lang/String;I)V"⟩
abbrev cX3_writeSet : ByteArray := prog_5_method_5_code
def yX3_writeSet : MethodName := ⟨RX3, "writeSet", "(I)V"⟩
abbrev cX3_writeWeights : ByteArray := prog_5_method_6_code
def yX3_writeWeights : MethodName := ⟨RX3, "writeWeights", "(LRoadLinks$Table;)V"⟩
abbrev cX3_writeNumber : ByteArray := prog_5_method_7_code
def yX3_writeNumber : MethodName := ⟨RX3, "writeNumber", "(I)V"⟩
abbrev cX3_write : ByteArray := prog_5_method_8_code
def yX3_write : MethodName := ⟨RX3, "write", "(Ljava/lang/String;)V"⟩
abbrev cX3_writeSign : ByteArray := prog_5_method_9_code
def yX3_writeSign : MethodName := ⟨RX3, "writeSign", "(C)V"⟩
def RX4 : String := "RoadLinks$Table"
def TX4 : u_T := fun k => match k with
  | 0 => ("RoadLinks$Table", "posts", "I", false)
  | 1 => ("RoadLinks$Table", "targets", "I", false)
  | 2 => ("RoadLinks$Table", "sets", "I", false)
  | 3 => ("RoadLinks$Table", "changes", "I", false)
  | 4 => ("RoadLinks$Table", "roads", "[I", true)
  | 5 => ("RoadLinks$Table", "weights", "[I", true)
  | _ => ("RoadLinks$Table", "family", "[I", true)
def tyX4 : Nat → FieldType := fun k => match k with
  | 0 => .int
  | 1 => .int
  | 2 => .int
  | 3 => .int
  | 4 => .array .int
  | 5 => .array .int
  | _ => .array .int
abbrev wsX40 : List Cond := u_ws RX4 TX4 7
theorem nmX4 : ∀ a, a < 7 → ∀ b, b < 7 → a ≠ b → (TX4 a).2.1 ≠ (TX4 b).2.1 := by decide +kernel
theorem tyX4_ok : ∀ k, k < 7 → parseFieldDescriptor (TX4 k).2.2.1 = some (tyX4 k) := by decide +kernel
abbrev cX4_init : ByteArray := prog_6_method_1_code
def yX4_init : MethodName := ⟨RX4, "<init>", "()V"⟩
abbrev cX4_all : ByteArray := prog_6_method_2_code
def yX4_all : MethodName := ⟨RX4, "all", "()I"⟩
abbrev cX4_isPost : ByteArray := prog_6_method_3_code
def yX4_isPost : MethodName := ⟨RX4, "isPost", "(I)Z"⟩
abbrev cX4_isSet : ByteArray := prog_6_method_4_code
def yX4_isSet : MethodName := ⟨RX4, "isSet", "(I)Z"⟩
abbrev cX4_isNumber : ByteArray := prog_6_method_5_code
def yX4_isNumber : MethodName := ⟨RX4, "isNumber", "(I)Z"⟩
abbrev cX4_begin : ByteArray := prog_6_method_6_code
def yX4_begin : MethodName := ⟨RX4, "begin", "(I)V"⟩
abbrev cX4_lay : ByteArray := prog_6_method_7_code
def yX4_lay : MethodName := ⟨RX4, "lay", "(IIZ)V"⟩
abbrev cX4_aim : ByteArray := prog_6_method_8_code
def yX4_aim : MethodName := ⟨RX4, "aim", "(I)V"⟩
abbrev cX4_load : ByteArray := prog_6_method_9_code
def yX4_load : MethodName := ⟨RX4, "load", "(II)V"⟩
abbrev cX4_join : ByteArray := prog_6_method_10_code
def yX4_join : MethodName := ⟨RX4, "join", "(I)V"⟩
abbrev cX4_replace : ByteArray := prog_6_method_11_code
def yX4_replace : MethodName := ⟨RX4, "replace", "(II)V"⟩
abbrev cX4_remove : ByteArray := prog_6_method_12_code
def yX4_remove : MethodName := ⟨RX4, "remove", "(I)V"⟩
abbrev cX4_removeEmpty : ByteArray := prog_6_method_13_code
def yX4_removeEmpty : MethodName := ⟨RX4, "removeEmpty", "()V"⟩
abbrev cX4_become : ByteArray := prog_6_method_14_code
def yX4_become : MethodName := ⟨RX4, "become", "(LRoadLinks$Table;)V"⟩
abbrev cX4_countRoads : ByteArray := prog_6_method_15_code
def yX4_countRoads : MethodName := ⟨RX4, "countRoads", "()I"⟩
abbrev cX4_weightOf : ByteArray := prog_6_method_16_code
def yX4_weightOf : MethodName := ⟨RX4, "weightOf", "(I)I"⟩
abbrev cX4_reached : ByteArray := prog_6_method_17_code
def yX4_reached : MethodName := ⟨RX4, "reached", "(II)I"⟩
abbrev cX4_isCut : ByteArray := prog_6_method_18_code
def yX4_isCut : MethodName := ⟨RX4, "isCut", "(II)Z"⟩
abbrev cX4_setsWith : ByteArray := prog_6_method_19_code
def yX4_setsWith : MethodName := ⟨RX4, "setsWith", "(I)I"⟩
abbrev cX4_turn : ByteArray := prog_6_method_20_code
def yX4_turn : MethodName := ⟨RX4, "turn", "()V"⟩
abbrev cX4_straighten : ByteArray := prog_6_method_21_code
def yX4_straighten : MethodName := ⟨RX4, "straighten", "([I)V"⟩
def RX5 : String := "RoadLinks$Tape"
def TX5 : u_T := fun k => match k with
  | 0 => ("RoadLinks$Tape", "bytes", "[C", true)
  | 1 => ("RoadLinks$Tape", "length", "I", false)
  | 2 => ("RoadLinks$Tape", "word", "I", false)
  | 3 => ("RoadLinks$Tape", "first", "I", false)
  | 4 => ("RoadLinks$Tape", "second", "I", false)
  | 5 => ("RoadLinks$Tape", "told", "I", false)
  | 6 => ("RoadLinks$Tape", "at", "I", false)
  | _ => ("RoadLinks$Tape", "fault", "I", false)
def tyX5 : Nat → FieldType := fun k => match k with
  | 0 => .array .char
  | 1 => .int
  | 2 => .int
  | 3 => .int
  | 4 => .int
  | 5 => .int
  | 6 => .int
  | _ => .int
abbrev wsX50 : List Cond := u_ws RX5 TX5 8
theorem nmX5 : ∀ a, a < 8 → ∀ b, b < 8 → a ≠ b → (TX5 a).2.1 ≠ (TX5 b).2.1 := by decide +kernel
theorem tyX5_ok : ∀ k, k < 8 → parseFieldDescriptor (TX5 k).2.2.1 = some (tyX5 k) := by decide +kernel
abbrev cX5_init : ByteArray := prog_7_method_1_code
def yX5_init : MethodName := ⟨RX5, "<init>", "()V"⟩
abbrev cX5_rewind : ByteArray := prog_7_method_2_code
def yX5_rewind : MethodName := ⟨RX5, "rewind", "()V"⟩
abbrev cX5_findFault : ByteArray := prog_7_method_3_code
def yX5_findFault : MethodName := ⟨RX5, "findFault", "()I"⟩
abbrev cX5_takeSemicolon : ByteArray := prog_7_method_4_code
def yX5_takeSemicolon : MethodName := ⟨RX5, "takeSemicolon", "()Z"⟩
abbrev cX5_takeStatement : ByteArray := prog_7_method_5_code
def yX5_takeStatement : MethodName := ⟨RX5, "takeStatement", "()V"⟩
abbrev cX5_wordFrom : ByteArray := prog_7_method_6_code
def yX5_wordFrom : MethodName := ⟨RX5, "wordFrom", "(I)I"⟩
abbrev cX5_isWord : ByteArray := prog_7_method_7_code
def yX5_isWord : MethodName := ⟨RX5, "isWord", "(Ljava/lang/String;I)Z"⟩
abbrev cX5_takePosts : ByteArray := prog_7_method_8_code
def yX5_takePosts : MethodName := ⟨RX5, "takePosts", "()V"⟩
abbrev cX5_takeNumber : ByteArray := prog_7_method_9_code
def yX5_takeNumber : MethodName := ⟨RX5, "takeNumber", "(I)I"⟩
abbrev cX5_isFigure : ByteArray := prog_7_method_10_code
def yX5_isFigure : MethodName := ⟨RX5, "isFigure", "()Z"⟩
def RX6 : String := "RoadLinks"
def TX6 : u_T := fun k => match k with
  | 0 => ("RoadLinks", "table", "LRoadLinks$Table;", true)
  | 1 => ("RoadLinks", "kept", "LRoadLinks$Table;", true)
  | 2 => ("RoadLinks", "isKept", "Z", false)
  | 3 => ("RoadLinks", "ranks", "LRoadLinks$Ranks;", true)
  | 4 => ("RoadLinks", "choice", "LRoadLinks$Choice;", true)
  | 5 => ("RoadLinks", "rows", "[[I", true)
  | 6 => ("RoadLinks", "sizes", "[I", true)
  | 7 => ("RoadLinks", "tape", "LRoadLinks$Tape;", true)
  | _ => ("RoadLinks", "speller", "LRoadLinks$Speller;", true)
def tyX6 : Nat → FieldType := fun k => match k with
  | 0 => .object "RoadLinks$Table"
  | 1 => .object "RoadLinks$Table"
  | 2 => .boolean
  | 3 => .object "RoadLinks$Ranks"
  | 4 => .object "RoadLinks$Choice"
  | 5 => .array (.array .int)
  | 6 => .array .int
  | 7 => .object "RoadLinks$Tape"
  | _ => .object "RoadLinks$Speller"
abbrev wsX60 : List Cond := u_ws RX6 TX6 9
theorem nmX6 : ∀ a, a < 9 → ∀ b, b < 9 → a ≠ b → (TX6 a).2.1 ≠ (TX6 b).2.1 := by decide +kernel
theorem tyX6_ok : ∀ k, k < 9 → parseFieldDescriptor (TX6 k).2.2.1 = some (tyX6 k) := by decide +kernel
abbrev cX6_init : ByteArray := prog_1_method_1_code
def yX6_init : MethodName := ⟨RX6, "<init>", "()V"⟩
abbrev cX6_posts : ByteArray := prog_1_method_2_code
def yX6_posts : MethodName := ⟨RX6, "posts", "(I)I"⟩
abbrev cX6_road : ByteArray := prog_1_method_3_code
def yX6_road : MethodName := ⟨RX6, "road", "(III)I"⟩
abbrev cX6_isRoad : ByteArray := prog_1_method_4_code
def yX6_isRoad : MethodName := ⟨RX6, "isRoad", "(II)I"⟩
abbrev cX6_targets : ByteArray := prog_1_method_5_code
def yX6_targets : MethodName := ⟨RX6, "targets", "(I)I"⟩
abbrev cX6_weigh : ByteArray := prog_1_method_6_code
def yX6_weigh : MethodName := ⟨RX6, "weigh", "(II)I"⟩
abbrev cX6_add : ByteArray := prog_1_method_7_code
def yX6_add : MethodName := ⟨RX6, "add", "(I)I"⟩
abbrev cX6_change : ByteArray := prog_1_method_8_code
def yX6_change : MethodName := ⟨RX6, "change", "(II)I"⟩
abbrev cX6_drop : ByteArray := prog_1_method_9_code
def yX6_drop : MethodName := ⟨RX6, "drop", "(I)I"⟩
abbrev cX6_set : ByteArray := prog_1_method_10_code
def yX6_set : MethodName := ⟨RX6, "set", "(I)I"⟩
abbrev cX6_rank : ByteArray := prog_1_method_11_code
def yX6_rank : MethodName := ⟨RX6, "rank", "(II)I"⟩
abbrev cX6_free : ByteArray := prog_1_method_12_code
def yX6_free : MethodName := ⟨RX6, "free", "(II)I"⟩
abbrev cX6_base : ByteArray := prog_1_method_13_code
def yX6_base : MethodName := ⟨RX6, "base", "(II)I"⟩
abbrev cX6_circuit : ByteArray := prog_1_method_14_code
def yX6_circuit : MethodName := ⟨RX6, "circuit", "(II)I"⟩
abbrev cX6_flat : ByteArray := prog_1_method_15_code
def yX6_flat : MethodName := ⟨RX6, "flat", "(II)I"⟩
abbrev cX6_shut : ByteArray := prog_1_method_16_code
def yX6_shut : MethodName := ⟨RX6, "shut", "(II)I"⟩
abbrev cX6_loops : ByteArray := prog_1_method_17_code
def yX6_loops : MethodName := ⟨RX6, "loops", "(II)I"⟩
abbrev cX6_round : ByteArray := prog_1_method_18_code
def yX6_round : MethodName := ⟨RX6, "round", "(III)I"⟩
abbrev cX6_swap : ByteArray := prog_1_method_19_code
def yX6_swap : MethodName := ⟨RX6, "swap", "(IIII)I"⟩
abbrev cX6_steps : ByteArray := prog_1_method_20_code
def yX6_steps : MethodName := ⟨RX6, "steps", "(I)I"⟩
abbrev cX6_less : ByteArray := prog_1_method_21_code
def yX6_less : MethodName := ⟨RX6, "less", "(IIII)I"⟩
abbrev cX6_heaviest : ByteArray := prog_1_method_22_code
def yX6_heaviest : MethodName := ⟨RX6, "heaviest", "(II)I"⟩
abbrev cX6_alike : ByteArray := prog_1_method_23_code
def yX6_alike : MethodName := ⟨RX6, "alike", "(II)I"⟩
abbrev cX6_cut : ByteArray := prog_1_method_24_code
def yX6_cut : MethodName := ⟨RX6, "cut", "(I)I"⟩
abbrev cX6_reach : ByteArray := prog_1_method_25_code
def yX6_reach : MethodName := ⟨RX6, "reach", "(I)I"⟩
abbrev cX6_partners : ByteArray := prog_1_method_26_code
def yX6_partners : MethodName := ⟨RX6, "partners", "(I)I"⟩
abbrev cX6_turned : ByteArray := prog_1_method_27_code
def yX6_turned : MethodName := ⟨RX6, "turned", "()I"⟩
abbrev cX6_strict : ByteArray := prog_1_method_28_code
def yX6_strict : MethodName := ⟨RX6, "strict", "()I"⟩
abbrev cX6_spare : ByteArray := prog_1_method_29_code
def yX6_spare : MethodName := ⟨RX6, "spare", "(I)I"⟩
abbrev cX6_room : ByteArray := prog_1_method_30_code
def yX6_room : MethodName := ⟨RX6, "room", "(I)I"⟩
abbrev cX6_idle : ByteArray := prog_1_method_31_code
def yX6_idle : MethodName := ⟨RX6, "idle", "()I"⟩
abbrev cX6_small : ByteArray := prog_1_method_32_code
def yX6_small : MethodName := ⟨RX6, "small", "()I"⟩
abbrev cX6_row : ByteArray := prog_1_method_33_code
def yX6_row : MethodName := ⟨RX6, "row", "(II)I"⟩
abbrev cX6_lose : ByteArray := prog_1_method_34_code
def yX6_lose : MethodName := ⟨RX6, "lose", "(I)I"⟩
abbrev cX6_put : ByteArray := prog_1_method_35_code
def yX6_put : MethodName := ⟨RX6, "put", "(III)I"⟩
abbrev cX6_get : ByteArray := prog_1_method_36_code
def yX6_get : MethodName := ⟨RX6, "get", "(II)J"⟩
abbrev cX6_copy : ByteArray := prog_1_method_37_code
def yX6_copy : MethodName := ⟨RX6, "copy", "(IIIII)I"⟩
abbrev cX6_film : ByteArray := prog_1_method_38_code
def yX6_film : MethodName := ⟨RX6, "film", "(IIII)I"⟩
abbrev cX6_judge : ByteArray := prog_1_method_39_code
def yX6_judge : MethodName := ⟨RX6, "judge", "(III)I"⟩
abbrev cX6_feed : ByteArray := prog_1_method_40_code
def yX6_feed : MethodName := ⟨RX6, "feed", "(I)I"⟩
abbrev cX6_wipe : ByteArray := prog_1_method_41_code
def yX6_wipe : MethodName := ⟨RX6, "wipe", "()I"⟩
abbrev cX6_read : ByteArray := prog_1_method_42_code
def yX6_read : MethodName := ⟨RX6, "read", "()I"⟩
abbrev cX6_spelled : ByteArray := prog_1_method_43_code
def yX6_spelled : MethodName := ⟨RX6, "spelled", "(I)I"⟩
abbrev cX6_image : ByteArray := prog_1_method_44_code
def yX6_image : MethodName := ⟨RX6, "image", "()I"⟩
abbrev cX6_undo : ByteArray := prog_1_method_45_code
def yX6_undo : MethodName := ⟨RX6, "undo", "()I"⟩
abbrev cX6_count : ByteArray := prog_1_method_46_code
def yX6_count : MethodName := ⟨RX6, "count", "(I)I"⟩
abbrev cX6_has : ByteArray := prog_1_method_47_code
def yX6_has : MethodName := ⟨RX6, "has", "(II)Z"⟩
abbrev cX6_isSide : ByteArray := prog_1_method_48_code
def yX6_isSide : MethodName := ⟨RX6, "isSide", "(I)Z"⟩
abbrev cX6_isEither : ByteArray := prog_1_method_49_code
def yX6_isEither : MethodName := ⟨RX6, "isEither", "(I)Z"⟩
abbrev cX6_isRow : ByteArray := prog_1_method_50_code
def yX6_isRow : MethodName := ⟨RX6, "isRow", "(I)Z"⟩
abbrev cX6_isThere : ByteArray := prog_1_method_51_code
def yX6_isThere : MethodName := ⟨RX6, "isThere", "(I)Z"⟩
abbrev cX6_countRows : ByteArray := prog_1_method_52_code
def yX6_countRows : MethodName := ⟨RX6, "countRows", "()I"⟩
abbrev cX6_freshRanks : ByteArray := prog_1_method_53_code
def yX6_freshRanks : MethodName := ⟨RX6, "freshRanks", "()LRoadLinks$Ranks;"⟩
abbrev cX6_listed : ByteArray := prog_1_method_54_code
def yX6_listed : MethodName := ⟨RX6, "listed", "(III)I"⟩
abbrev cX6_likewise : ByteArray := prog_1_method_55_code
def yX6_likewise : MethodName := ⟨RX6, "likewise", "(II)I"⟩
abbrev cX6_doStatements : ByteArray := prog_1_method_56_code
def yX6_doStatements : MethodName := ⟨RX6, "doStatements", "()I"⟩
abbrev cX6_isDone : ByteArray := prog_1_method_57_code
def yX6_isDone : MethodName := ⟨RX6, "isDone", "()Z"⟩
def RX7 : String := "RoadLinksModel"
def TX7 : u_T := fun k => match k with
  | 0 => ("RoadLinksModel", "posts", "I", false)
  | 1 => ("RoadLinksModel", "out", "[I", true)
  | 2 => ("RoadLinksModel", "targets", "I", false)
  | 3 => ("RoadLinksModel", "weight", "[I", true)
  | 4 => ("RoadLinksModel", "sets", "I", false)
  | 5 => ("RoadLinksModel", "family", "[I", true)
  | 6 => ("RoadLinksModel", "size", "[I", true)
  | 7 => ("RoadLinksModel", "cell", "[I", true)
  | 8 => ("RoadLinksModel", "between", "[I", true)
  | 9 => ("RoadLinksModel", "tape", "[I", true)
  | 10 => ("RoadLinksModel", "taped", "I", false)
  | 11 => ("RoadLinksModel", "open", "[I", true)
  | 12 => ("RoadLinksModel", "isFree", "[Z", true)
  | 13 => ("RoadLinksModel", "isBase", "[Z", true)
  | 14 => ("RoadLinksModel", "ranks", "[I", true)
  | 15 => ("RoadLinksModel", "otherRanks", "[I", true)
  | 16 => ("RoadLinksModel", "postOf", "[I", true)
  | 17 => ("RoadLinksModel", "wasBase", "[Z", true)
  | 18 => ("RoadLinksModel", "at", "I", false)
  | 19 => ("RoadLinksModel", "fault", "I", false)
  | 20 => ("RoadLinksModel", "word", "I", false)
  | 21 => ("RoadLinksModel", "figure", "I", false)
  | 22 => ("RoadLinksModel", "first", "I", false)
  | 23 => ("RoadLinksModel", "second", "I", false)
  | 24 => ("RoadLinksModel", "told", "I", false)
  | 25 => ("RoadLinksModel", "paper", "[I", true)
  | 26 => ("RoadLinksModel", "papers", "I", false)
  | 27 => ("RoadLinksModel", "hasImage", "Z", false)
  | _ => ("RoadLinksModel", "imaged", "[I", true)
def tyX7 : Nat → FieldType := fun k => match k with
  | 0 => .int
  | 1 => .array .int
  | 2 => .int
  | 3 => .array .int
  | 4 => .int
  | 5 => .array .int
  | 6 => .array .int
  | 7 => .array .int
  | 8 => .array .int
  | 9 => .array .int
  | 10 => .int
  | 11 => .array .int
  | 12 => .array .boolean
  | 13 => .array .boolean
  | 14 => .array .int
  | 15 => .array .int
  | 16 => .array .int
  | 17 => .array .boolean
  | 18 => .int
  | 19 => .int
  | 20 => .int
  | 21 => .int
  | 22 => .int
  | 23 => .int
  | 24 => .int
  | 25 => .array .int
  | 26 => .int
  | 27 => .boolean
  | _ => .array .int
abbrev wsX70 : List Cond := u_ws RX7 TX7 29
theorem nmX7 : ∀ a, a < 29 → ∀ b, b < 29 → a ≠ b → (TX7 a).2.1 ≠ (TX7 b).2.1 := by decide +kernel
theorem tyX7_ok : ∀ k, k < 29 → parseFieldDescriptor (TX7 k).2.2.1 = some (tyX7 k) := by decide +kernel
abbrev cX7_init : ByteArray := prog_9_method_1_code
def yX7_init : MethodName := ⟨RX7, "<init>", "()V"⟩
abbrev cX7_in : ByteArray := prog_9_method_2_code
def yX7_in : MethodName := ⟨RX7, "in", "(III)Z"⟩
abbrev cX7_isPost : ByteArray := prog_9_method_3_code
def yX7_isPost : MethodName := ⟨RX7, "isPost", "(I)Z"⟩
abbrev cX7_isSet : ByteArray := prog_9_method_4_code
def yX7_isSet : MethodName := ⟨RX7, "isSet", "(I)Z"⟩
abbrev cX7_isNumber : ByteArray := prog_9_method_5_code
def yX7_isNumber : MethodName := ⟨RX7, "isNumber", "(I)Z"⟩
abbrev cX7_isSide : ByteArray := prog_9_method_6_code
def yX7_isSide : MethodName := ⟨RX7, "isSide", "(I)Z"⟩
abbrev cX7_all : ByteArray := prog_9_method_7_code
def yX7_all : MethodName := ⟨RX7, "all", "()I"⟩
abbrev cX7_has : ByteArray := prog_9_method_8_code
def yX7_has : MethodName := ⟨RX7, "has", "(II)Z"⟩
abbrev cX7_openPast : ByteArray := prog_9_method_9_code
def yX7_openPast : MethodName := ⟨RX7, "openPast", "(I)I"⟩
abbrev cX7_cutOf : ByteArray := prog_9_method_10_code
def yX7_cutOf : MethodName := ⟨RX7, "cutOf", "(I)I"⟩
abbrev cX7_layCuts : ByteArray := prog_9_method_11_code
def yX7_layCuts : MethodName := ⟨RX7, "layCuts", "()V"⟩
abbrev cX7_meeting : ByteArray := prog_9_method_12_code
def yX7_meeting : MethodName := ⟨RX7, "meeting", "(II)I"⟩
abbrev cX7_layFree : ByteArray := prog_9_method_13_code
def yX7_layFree : MethodName := ⟨RX7, "layFree", "(I)V"⟩
abbrev cX7_layRanks : ByteArray := prog_9_method_14_code
def yX7_layRanks : MethodName := ⟨RX7, "layRanks", "()V"⟩
abbrev cX7_isPastBase : ByteArray := prog_9_method_15_code
def yX7_isPastBase : MethodName := ⟨RX7, "isPastBase", "(I)Z"⟩
abbrev cX7_lay : ByteArray := prog_9_method_16_code
def yX7_lay : MethodName := ⟨RX7, "lay", "(I)V"⟩
abbrev cX7_begins : ByteArray := prog_9_method_17_code
def yX7_begins : MethodName := ⟨RX7, "begins", "(I)V"⟩
abbrev cX7_posts : ByteArray := prog_9_method_18_code
def yX7_posts : MethodName := ⟨RX7, "posts", "(I)I"⟩
abbrev cX7_road : ByteArray := prog_9_method_19_code
def yX7_road : MethodName := ⟨RX7, "road", "(III)I"⟩
abbrev cX7_isRoad : ByteArray := prog_9_method_20_code
def yX7_isRoad : MethodName := ⟨RX7, "isRoad", "(II)I"⟩
abbrev cX7_targets : ByteArray := prog_9_method_21_code
def yX7_targets : MethodName := ⟨RX7, "targets", "(I)I"⟩
abbrev cX7_weigh : ByteArray := prog_9_method_22_code
def yX7_weigh : MethodName := ⟨RX7, "weigh", "(II)I"⟩
abbrev cX7_add : ByteArray := prog_9_method_23_code
def yX7_add : MethodName := ⟨RX7, "add", "(I)I"⟩
abbrev cX7_change : ByteArray := prog_9_method_24_code
def yX7_change : MethodName := ⟨RX7, "change", "(II)I"⟩
abbrev cX7_goes : ByteArray := prog_9_method_25_code
def yX7_goes : MethodName := ⟨RX7, "goes", "(I)V"⟩
abbrev cX7_drop : ByteArray := prog_9_method_26_code
def yX7_drop : MethodName := ⟨RX7, "drop", "(I)I"⟩
abbrev cX7_set : ByteArray := prog_9_method_27_code
def yX7_set : MethodName := ⟨RX7, "set", "(I)I"⟩
abbrev cX7_rank : ByteArray := prog_9_method_28_code
def yX7_rank : MethodName := ⟨RX7, "rank", "(II)I"⟩
abbrev cX7_free : ByteArray := prog_9_method_29_code
def yX7_free : MethodName := ⟨RX7, "free", "(II)I"⟩
abbrev cX7_isCircuit : ByteArray := prog_9_method_30_code
def yX7_isCircuit : MethodName := ⟨RX7, "isCircuit", "(I)Z"⟩
abbrev cX7_shutOf : ByteArray := prog_9_method_31_code
def yX7_shutOf : MethodName := ⟨RX7, "shutOf", "(I)I"⟩
abbrev cX7_listed : ByteArray := prog_9_method_32_code
def yX7_listed : MethodName := ⟨RX7, "listed", "(III)I"⟩
abbrev cX7_base : ByteArray := prog_9_method_33_code
def yX7_base : MethodName := ⟨RX7, "base", "(II)I"⟩
abbrev cX7_circuit : ByteArray := prog_9_method_34_code
def yX7_circuit : MethodName := ⟨RX7, "circuit", "(II)I"⟩
abbrev cX7_flat : ByteArray := prog_9_method_35_code
def yX7_flat : MethodName := ⟨RX7, "flat", "(II)I"⟩
abbrev cX7_shut : ByteArray := prog_9_method_36_code
def yX7_shut : MethodName := ⟨RX7, "shut", "(II)I"⟩
abbrev cX7_loops : ByteArray := prog_9_method_37_code
def yX7_loops : MethodName := ⟨RX7, "loops", "(II)I"⟩
abbrev cX7_round : ByteArray := prog_9_method_38_code
def yX7_round : MethodName := ⟨RX7, "round", "(III)I"⟩
abbrev cX7_swap : ByteArray := prog_9_method_39_code
def yX7_swap : MethodName := ⟨RX7, "swap", "(IIII)I"⟩
abbrev cX7_steps : ByteArray := prog_9_method_40_code
def yX7_steps : MethodName := ⟨RX7, "steps", "(I)I"⟩
abbrev cX7_less : ByteArray := prog_9_method_41_code
def yX7_less : MethodName := ⟨RX7, "less", "(IIII)I"⟩
abbrev cX7_weightOf : ByteArray := prog_9_method_42_code
def yX7_weightOf : MethodName := ⟨RX7, "weightOf", "(I)I"⟩
abbrev cX7_heaviest : ByteArray := prog_9_method_43_code
def yX7_heaviest : MethodName := ⟨RX7, "heaviest", "(II)I"⟩
abbrev cX7_alike : ByteArray := prog_9_method_44_code
def yX7_alike : MethodName := ⟨RX7, "alike", "(II)I"⟩
abbrev cX7_cut : ByteArray := prog_9_method_45_code
def yX7_cut : MethodName := ⟨RX7, "cut", "(I)I"⟩
abbrev cX7_reach : ByteArray := prog_9_method_46_code
def yX7_reach : MethodName := ⟨RX7, "reach", "(I)I"⟩
abbrev cX7_canHave : ByteArray := prog_9_method_47_code
def yX7_canHave : MethodName := ⟨RX7, "canHave", "(II)Z"⟩
abbrev cX7_partners : ByteArray := prog_9_method_48_code
def yX7_partners : MethodName := ⟨RX7, "partners", "(I)I"⟩
abbrev cX7_turned : ByteArray := prog_9_method_49_code
def yX7_turned : MethodName := ⟨RX7, "turned", "()I"⟩
abbrev cX7_canTake : ByteArray := prog_9_method_50_code
def yX7_canTake : MethodName := ⟨RX7, "canTake", "(II)Z"⟩
abbrev cX7_strict : ByteArray := prog_9_method_51_code
def yX7_strict : MethodName := ⟨RX7, "strict", "()I"⟩
abbrev cX7_keepsBases : ByteArray := prog_9_method_52_code
def yX7_keepsBases : MethodName := ⟨RX7, "keepsBases", "()V"⟩
abbrev cX7_areBases : ByteArray := prog_9_method_53_code
def yX7_areBases : MethodName := ⟨RX7, "areBases", "()Z"⟩
abbrev cX7_changing : ByteArray := prog_9_method_54_code
def yX7_changing : MethodName := ⟨RX7, "changing", "(II)I"⟩
abbrev cX7_spare : ByteArray := prog_9_method_55_code
def yX7_spare : MethodName := ⟨RX7, "spare", "(I)I"⟩
abbrev cX7_room : ByteArray := prog_9_method_56_code
def yX7_room : MethodName := ⟨RX7, "room", "(I)I"⟩
abbrev cX7_idle : ByteArray := prog_9_method_57_code
def yX7_idle : MethodName := ⟨RX7, "idle", "()I"⟩
abbrev cX7_small : ByteArray := prog_9_method_58_code
def yX7_small : MethodName := ⟨RX7, "small", "()I"⟩
abbrev cX7_isRow : ByteArray := prog_9_method_59_code
def yX7_isRow : MethodName := ⟨RX7, "isRow", "(I)Z"⟩
abbrev cX7_row : ByteArray := prog_9_method_60_code
def yX7_row : MethodName := ⟨RX7, "row", "(II)I"⟩
abbrev cX7_lose : ByteArray := prog_9_method_61_code
def yX7_lose : MethodName := ⟨RX7, "lose", "(I)I"⟩
abbrev cX7_put : ByteArray := prog_9_method_62_code
def yX7_put : MethodName := ⟨RX7, "put", "(III)I"⟩
abbrev cX7_get : ByteArray := prog_9_method_63_code
def yX7_get : MethodName := ⟨RX7, "get", "(II)J"⟩
abbrev cX7_copy : ByteArray := prog_9_method_64_code
def yX7_copy : MethodName := ⟨RX7, "copy", "(IIIII)I"⟩
abbrev cX7_film : ByteArray := prog_9_method_65_code
def yX7_film : MethodName := ⟨RX7, "film", "(IIII)I"⟩
abbrev cX7_judge : ByteArray := prog_9_method_66_code
def yX7_judge : MethodName := ⟨RX7, "judge", "(III)I"⟩
abbrev cX7_feed : ByteArray := prog_9_method_67_code
def yX7_feed : MethodName := ⟨RX7, "feed", "(I)I"⟩
abbrev cX7_wipe : ByteArray := prog_9_method_68_code
def yX7_wipe : MethodName := ⟨RX7, "wipe", "()I"⟩
abbrev cX7_wordOf : ByteArray := prog_9_method_69_code
def yX7_wordOf : MethodName := ⟨RX7, "wordOf", "(I)Ljava/lang/String;"⟩
abbrev cX7_isHere : ByteArray := prog_9_method_70_code
def yX7_isHere : MethodName := ⟨RX7, "isHere", "(I)Z"⟩
abbrev cX7_isFigure : ByteArray := prog_9_method_71_code
def yX7_isFigure : MethodName := ⟨RX7, "isFigure", "()Z"⟩
abbrev cX7_isWordFrom : ByteArray := prog_9_method_72_code
def yX7_isWordFrom : MethodName := ⟨RX7, "isWordFrom", "(ILjava/lang/String;)Z"⟩
abbrev cX7_readWord : ByteArray := prog_9_method_73_code
def yX7_readWord : MethodName := ⟨RX7, "readWord", "()Z"⟩
abbrev cX7_readFigure : ByteArray := prog_9_method_74_code
def yX7_readFigure : MethodName := ⟨RX7, "readFigure", "()Z"⟩
abbrev cX7_readSet : ByteArray := prog_9_method_75_code
def yX7_readSet : MethodName := ⟨RX7, "readSet", "()Z"⟩
abbrev cX7_readStatement : ByteArray := prog_9_method_76_code
def yX7_readStatement : MethodName := ⟨RX7, "readStatement", "()Z"⟩
abbrev cX7_isDone : ByteArray := prog_9_method_77_code
def yX7_isDone : MethodName := ⟨RX7, "isDone", "()Z"⟩
abbrev cX7_reads : ByteArray := prog_9_method_78_code
def yX7_reads : MethodName := ⟨RX7, "reads", "(Z)I"⟩
abbrev cX7_read : ByteArray := prog_9_method_79_code
def yX7_read : MethodName := ⟨RX7, "read", "()I"⟩
abbrev cX7_writes : ByteArray := prog_9_method_80_code
def yX7_writes : MethodName := ⟨RX7, "writes", "(I)V"⟩
abbrev cX7_writesWord : ByteArray := prog_9_method_81_code
def yX7_writesWord : MethodName := ⟨RX7, "writesWord", "(I)V"⟩
abbrev cX7_writesNumber : ByteArray := prog_9_method_82_code
def yX7_writesNumber : MethodName := ⟨RX7, "writesNumber", "(I)V"⟩
abbrev cX7_spells : ByteArray := prog_9_method_83_code
def yX7_spells : MethodName := ⟨RX7, "spells", "()V"⟩
abbrev cX7_spelled : ByteArray := prog_9_method_84_code
def yX7_spelled : MethodName := ⟨RX7, "spelled", "(I)I"⟩
abbrev cX7_image : ByteArray := prog_9_method_85_code
def yX7_image : MethodName := ⟨RX7, "image", "()I"⟩
abbrev cX7_undo : ByteArray := prog_9_method_86_code
def yX7_undo : MethodName := ⟨RX7, "undo", "()I"⟩
abbrev cX7_count : ByteArray := prog_9_method_87_code
def yX7_count : MethodName := ⟨RX7, "count", "(I)I"⟩
def RJ6 : String := "java/lang/Integer"
def TJ6 : u_T := fun k => match k with
  | _ => ("", "", "", false)
def tyJ6 : Nat → FieldType := fun k => match k with
  | _ => .int
abbrev wsJ60 : List Cond := u_ws RJ6 TJ6 0
theorem nmJ6 : ∀ a, a < 0 → ∀ b, b < 0 → a ≠ b → (TJ6 a).2.1 ≠ (TJ6 b).2.1 := by decide +kernel
theorem tyJ6_ok : ∀ k, k < 0 → parseFieldDescriptor (TJ6 k).2.2.1 = some (tyJ6 k) := by decide +kernel
abbrev cJ6_bitCount_0f7a4 : ByteArray := prog_10_method_49_code
def yJ6_bitCount_0f7a4 : MethodName := ⟨RJ6, "bitCount", "(I)I"⟩
def RJ9 : String := "java/lang/Math"
def TJ9 : u_T := fun k => match k with
  | _ => ("", "", "", false)
def tyJ9 : Nat → FieldType := fun k => match k with
  | _ => .int
abbrev wsJ90 : List Cond := u_ws RJ9 TJ9 0
theorem nmJ9 : ∀ a, a < 0 → ∀ b, b < 0 → a ≠ b → (TJ9 a).2.1 ≠ (TJ9 b).2.1 := by decide +kernel
theorem tyJ9_ok : ∀ k, k < 0 → parseFieldDescriptor (TJ9 k).2.2.1 = some (tyJ9 k) := by decide +kernel
abbrev cJ9_max_7cf53 : ByteArray := prog_11_method_65_code
def yJ9_max_7cf53 : MethodName := ⟨RJ9, "max", "(II)I"⟩
abbrev cJ9_min_7cf53 : ByteArray := prog_11_method_69_code
def yJ9_min_7cf53 : MethodName := ⟨RJ9, "min", "(II)I"⟩
def RJ0 : String := "java/lang/String"
def TJ0 : u_T := fun k => match k with
  | _ => ("", "", "", false)
def tyJ0 : Nat → FieldType := fun k => match k with
  | _ => .int
abbrev wsJ00 : List Cond := u_ws RJ0 TJ0 0
theorem nmJ0 : ∀ a, a < 0 → ∀ b, b < 0 → a ≠ b → (TJ0 a).2.1 ≠ (TJ0 b).2.1 := by decide +kernel
theorem tyJ0_ok : ∀ k, k < 0 → parseFieldDescriptor (TJ0 k).2.2.1 = some (tyJ0 k) := by decide +kernel
abbrev cJ0_length_8abf5 : ByteArray := prog_12_method_54_code
def yJ0_length_8abf5 : MethodName := ⟨RJ0, "length", "()I"⟩
abbrev cJ0_charAt_5068e : ByteArray := prog_12_method_56_code
def yJ0_charAt_5068e : MethodName := ⟨RJ0, "charAt", "(I)C"⟩
abbrev cJ0_coder_7d493 : ByteArray := prog_12_method_152_code
def yJ0_coder_7d493 : MethodName := ⟨RJ0, "coder", "()B"⟩
abbrev cJ0_isLatin1_aae02 : ByteArray := prog_12_method_154_code
def yJ0_isLatin1_aae02 : MethodName := ⟨RJ0, "isLatin1", "()Z"⟩
abbrev cJ0_checkIndex_df160 : ByteArray := prog_12_method_155_code
def yJ0_checkIndex_df160 : MethodName := ⟨RJ0, "checkIndex", "(II)V"⟩
def RJ1 : String := "java/lang/StringLatin1"
def TJ1 : u_T := fun k => match k with
  | _ => ("", "", "", false)
def tyJ1 : Nat → FieldType := fun k => match k with
  | _ => .int
abbrev wsJ10 : List Cond := u_ws RJ1 TJ1 0
theorem nmJ1 : ∀ a, a < 0 → ∀ b, b < 0 → a ≠ b → (TJ1 a).2.1 ≠ (TJ1 b).2.1 := by decide +kernel
theorem tyJ1_ok : ∀ k, k < 0 → parseFieldDescriptor (TJ1 k).2.2.1 = some (tyJ1 k) := by decide +kernel
abbrev cJ1_charAt_3b067 : ByteArray := prog_13_method_2_code
def yJ1_charAt_3b067 : MethodName := ⟨RJ1, "charAt", "([BI)C"⟩
def RJ2 : String := "java/lang/StringUTF16"
def TJ2 : u_T := fun k => match k with
  | _ => ("", "", "", false)
def tyJ2 : Nat → FieldType := fun k => match k with
  | _ => .int
abbrev wsJ20 : List Cond := u_ws RJ2 TJ2 0
theorem nmJ2 : ∀ a, a < 0 → ∀ b, b < 0 → a ≠ b → (TJ2 a).2.1 ≠ (TJ2 b).2.1 := by decide +kernel
theorem tyJ2_ok : ∀ k, k < 0 → parseFieldDescriptor (TJ2 k).2.2.1 = some (tyJ2 k) := by decide +kernel
abbrev cJ2_getChar_3b067 : ByteArray := prog_14_method_5_code
def yJ2_getChar_3b067 : MethodName := ⟨RJ2, "getChar", "([BI)C"⟩
abbrev cJ2_length_9d52b : ByteArray := prog_14_method_6_code
def yJ2_length_9d52b : MethodName := ⟨RJ2, "length", "([B)I"⟩
abbrev cJ2_charAt_3b067 : ByteArray := prog_14_method_83_code
def yJ2_charAt_3b067 : MethodName := ⟨RJ2, "charAt", "([BI)C"⟩
abbrev cJ2_checkIndex_2214a : ByteArray := prog_14_method_91_code
def yJ2_checkIndex_2214a : MethodName := ⟨RJ2, "checkIndex", "(I[B)V"⟩
def RJ10 : String := "java/lang/System"
def TJ10 : u_T := fun k => match k with
  | _ => ("", "", "", false)
def tyJ10 : Nat → FieldType := fun k => match k with
  | _ => .int
abbrev wsJ100 : List Cond := u_ws RJ10 TJ10 0
theorem nmJ10 : ∀ a, a < 0 → ∀ b, b < 0 → a ≠ b → (TJ10 a).2.1 ≠ (TJ10 b).2.1 := by decide +kernel
theorem tyJ10_ok : ∀ k, k < 0 → parseFieldDescriptor (TJ10 k).2.2.1 = some (tyJ10 k) := by decide +kernel
def RJ3 : String := "jdk/internal/util/Preconditions"
def TJ3 : u_T := fun k => match k with
  | _ => ("", "", "", false)
def tyJ3 : Nat → FieldType := fun k => match k with
  | _ => .int
abbrev wsJ30 : List Cond := u_ws RJ3 TJ3 0
theorem nmJ3 : ∀ a, a < 0 → ∀ b, b < 0 → a ≠ b → (TJ3 a).2.1 ≠ (TJ3 b).2.1 := by decide +kernel
theorem tyJ3_ok : ∀ k, k < 0 → parseFieldDescriptor (TJ3 k).2.2.1 = some (tyJ3 k) := by decide +kernel
abbrev cJ3_checkIndex_8e157 : ByteArray := prog_16_method_11_code
def yJ3_checkIndex_8e157 : MethodName := ⟨RJ3, "checkIndex", "(IILjava/util/function/BiFunction;)I"⟩
def RL : String := "RoadLinksLaw"
abbrev cL_law : ByteArray := code
def yL_law : MethodName := ⟨RL, "law", "([I)Z"⟩
abbrev vwCl : List vw_C := [(RX0, TX0, 4), (RX1, TX1, 2), (RX2, TX2, 7), (RX3, TX3, 3), (RX4, TX4, 7), (RX5, TX5, 8), (RX6, TX6, 9), (RX7, TX7, 29)]
