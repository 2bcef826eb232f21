/-! PLAIN FUNCTIONS (J), laid by program out of the bytecode: each says what its method answers and leaves; none: a place that is out of bounds, or no end within n turns -/
theorem ret1 {α : Type} {a b : α} (h : some a = some b) : b = a := (Option.some.inj h).symm
theorem ret2 {α β : Type} {a c : α} {b d : β} (h : some (a, b) = some (c, d)) : c = a ∧ d = b := by
  have q := Option.some.inj h
  exact ⟨(congrArg Prod.fst q).symm, (congrArg Prod.snd q).symm⟩
theorem nar_0 : narrow .boolean (.int 0) = .int 0 := by decide +kernel
theorem nar_1 : narrow .boolean (.int 1) = .int 1 := by decide +kernel
def J6_bitCount (v0 : Int32) : Option (Int32) :=
nm (v0 - (((v0).toUInt32 >>> (((1 : Int32)).toUInt32 &&& Int32.toUInt32 31)).toInt32 &&& (1431655765 : Int32))) fun v0_1 =>
nm ((v0_1 &&& (858993459 : Int32)) + (((v0_1).toUInt32 >>> (((2 : Int32)).toUInt32 &&& Int32.toUInt32 31)).toInt32 &&& (858993459 : Int32))) fun v0_3 =>
nm ((v0_3 + ((v0_3).toUInt32 >>> (((4 : Int32)).toUInt32 &&& Int32.toUInt32 31)).toInt32) &&& (252645135 : Int32)) fun v0_5 =>
nm (v0_5 + ((v0_5).toUInt32 >>> (((8 : Int32)).toUInt32 &&& Int32.toUInt32 31)).toInt32) fun v0_7 =>
nm (v0_7 + ((v0_7).toUInt32 >>> (((16 : Int32)).toUInt32 &&& Int32.toUInt32 31)).toInt32) fun v0_9 =>
some (v0_9 &&& (63 : Int32))
