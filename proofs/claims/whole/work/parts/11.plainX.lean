/-! PLAIN FUNCTIONS (X), laid by program out of the bytecode: each says what its method answers and leaves; none: a place that is out of bounds, or no end within n turns -/
def X4_begin_L1_b  (rec : Int32 → ST → Option (ST)) (v2 : Int32) (s0 : ST) : Option (ST) :=
if (8 : Int32) ≤ v2 then (
some s0)
else (
gd (inb v2 8) <|
nm (sA s0 0 (upd (s0.2.1 0) (v2).toNatClampNeg (0 : Int32))) fun s9 =>
gd (inb v2 8) <|
nm (sA s9 1 (upd (s9.2.1 1) (v2).toNatClampNeg (0 : Int32))) fun s12 =>
nm (v2 + (1 : Int32)) fun v2_14 =>
rec v2_14 s12)
def X4_begin_L1  : Nat → Int32 → ST → Option (ST)
  | 0 => fun _ _ => none
  | k + 1 => X4_begin_L1_b  (X4_begin_L1  k)
def X4_begin (n : Nat) (s0 : ST) (v1 : Int32) : Option (ST) :=
nm (sI s0 1 v1) fun s1 =>
nm (sI s1 2 (0 : Int32)) fun s3 =>
nm (sI s3 3 (0 : Int32)) fun s5 =>
bd (X4_begin_L1 n (0 : Int32) s5) fun e16 =>
nm (sI e16 4 ((e16.1 4) + (1 : Int32))) fun s18 =>
some s18
def X6_posts (n : Nat) (s0 : ST) (v1 : Int32) : Option (Int32 × ST) :=
if v1 < (1 : Int32) then (
some ((-2 : Int32), s0))
else (
if v1 ≤ (8 : Int32) then (
nm (s0.1 1) fun v2_3 =>
bd (X4_begin n s0 v1) fun s6 =>
some (v2_3, s6))
else (
some ((-2 : Int32), s0)))
def X4_isPost (s0 : ST) (v1 : Int32) : Option (Int32) :=
if v1 < 0 then (
some (0 : Int32))
else (
if (s0.1 1) ≤ v1 then (
some (0 : Int32))
else (
some (1 : Int32)))
def X4_lay (s0 : ST) (v1 : Int32) (v2 : Int32) (v3 : Int32) : Option (ST) :=
if v3 = 0 then (
gd (inb v1 8) <|
gd (inb v1 8) <|
nm (sA s0 0 (upd (s0.2.1 0) (v1).toNatClampNeg ((s0.2.1 0 (v1).toNatClampNeg) &&& (((1 : Int32) <<< (v2 &&& 31)) ^^^ (-1 : Int32))))) fun s4 =>
nm (sI s4 4 ((s4.1 4) + (1 : Int32))) fun s6 =>
some s6)
else (
gd (inb v1 8) <|
gd (inb v1 8) <|
nm (sA s0 0 (upd (s0.2.1 0) (v1).toNatClampNeg ((s0.2.1 0 (v1).toNatClampNeg) ||| ((1 : Int32) <<< (v2 &&& 31))))) fun s10 =>
nm (sI s10 4 ((s10.1 4) + (1 : Int32))) fun s12 =>
some s12)
def X6_road (s0 : ST) (v1 : Int32) (v2 : Int32) (v3 : Int32) : Option (Int32 × ST) :=
bd (X4_isPost s0 v1) fun r2 =>
if r2 = 0 then (
some ((-1 : Int32), s0))
else (
bd (X4_isPost s0 v2) fun r5 =>
if r5 = 0 then (
some ((-1 : Int32), s0))
else (
if v3 = 0 then (
if v1 = v2 then (
some ((-3 : Int32), s0))
else (
gd (inb v1 8) <|
nm (((s0.2.1 0 (v1).toNatClampNeg) >>> (v2 &&& 31)) &&& (1 : Int32)) fun v4_10 =>
if v3 = (1 : Int32) then (
bd (X4_lay s0 v1 v2 (1 : Int32)) fun s16 =>
some (v4_10, s16))
else (
bd (X4_lay s0 v1 v2 (0 : Int32)) fun s14 =>
some (v4_10, s14))))
else (
if v3 = (1 : Int32) then (
if v1 = v2 then (
some ((-3 : Int32), s0))
else (
gd (inb v1 8) <|
nm (((s0.2.1 0 (v1).toNatClampNeg) >>> (v2 &&& 31)) &&& (1 : Int32)) fun v4_20 =>
if v3 = (1 : Int32) then (
bd (X4_lay s0 v1 v2 (1 : Int32)) fun s26 =>
some (v4_20, s26))
else (
bd (X4_lay s0 v1 v2 (0 : Int32)) fun s24 =>
some (v4_20, s24))))
else (
some ((-2 : Int32), s0)))))
def X6_isRoad (s0 : ST) (v1 : Int32) (v2 : Int32) : Option (Int32) :=
bd (X4_isPost s0 v1) fun r2 =>
if r2 = 0 then (
some (-1 : Int32))
else (
bd (X4_isPost s0 v2) fun r5 =>
if r5 = 0 then (
some (-1 : Int32))
else (
gd (inb v1 8) <|
some (((s0.2.1 0 (v1).toNatClampNeg) >>> (v2 &&& 31)) &&& (1 : Int32))))
def X4_all (s0 : ST)  : Option (Int32) :=
some (((1 : Int32) <<< ((s0.1 1) &&& 31)) - (1 : Int32))
def X4_isSet (s0 : ST) (v1 : Int32) : Option (Int32) :=
if v1 < 0 then (
some (0 : Int32))
else (
bd (X4_all s0) fun r3 =>
if r3 < v1 then (
some (0 : Int32))
else (
some (1 : Int32)))
def X4_aim (s0 : ST) (v1 : Int32) : Option (ST) :=
nm (sI s0 2 v1) fun s1 =>
nm (sI s1 4 ((s1.1 4) + (1 : Int32))) fun s3 =>
some s3
def X6_targets (s0 : ST) (v1 : Int32) : Option (Int32 × ST) :=
bd (X4_isSet s0 v1) fun r2 =>
if r2 = 0 then (
some ((-2 : Int32), s0))
else (
nm (s0.1 2) fun v2_4 =>
bd (X4_aim s0 v1) fun s7 =>
some (v2_4, s7))
def X4_load (s0 : ST) (v1 : Int32) (v2 : Int32) : Option (ST) :=
gd (inb v1 8) <|
nm (sA s0 1 (upd (s0.2.1 1) (v1).toNatClampNeg v2)) fun s2 =>
nm (sI s2 4 ((s2.1 4) + (1 : Int32))) fun s4 =>
some s4
def X6_weigh (s0 : ST) (v1 : Int32) (v2 : Int32) : Option (Int32 × ST) :=
bd (X4_isPost s0 v1) fun r2 =>
if r2 = 0 then (
some ((-1 : Int32), s0))
else (
if v2 < 0 then (
some ((-2 : Int32), s0))
else (
if v2 ≤ (99 : Int32) then (
gd (inb v1 8) <|
nm (s0.2.1 1 (v1).toNatClampNeg) fun v3_7 =>
bd (X4_load s0 v1 v2) fun s10 =>
some (v3_7, s10))
else (
some ((-2 : Int32), s0))))
def X4_join (s0 : ST) (v1 : Int32) : Option (ST) :=
if (s0.1 3) < (8 : Int32) then (
gd (inb (s0.1 3) 8) <|
nm (sA s0 2 (upd (s0.2.1 2) ((s0.1 3)).toNatClampNeg v1)) fun s3 =>
nm (sI s3 3 ((s3.1 3) + (1 : Int32))) fun s5 =>
nm (sI s5 4 ((s5.1 4) + (1 : Int32))) fun s7 =>
some s7)
else (
some s0)
def X6_add (s0 : ST) (v1 : Int32) : Option (Int32 × ST) :=
bd (X4_isSet s0 v1) fun r2 =>
if r2 = 0 then (
some ((-2 : Int32), s0))
else (
if (s0.1 3) < (8 : Int32) then (
bd (X4_join s0 v1) fun s6 =>
some (((s6.1 3) - (1 : Int32)), s6))
else (
some ((-4 : Int32), s0)))
def X4_isNumber (s0 : ST) (v1 : Int32) : Option (Int32) :=
if v1 < 0 then (
some (0 : Int32))
else (
if (s0.1 3) ≤ v1 then (
some (0 : Int32))
else (
some (1 : Int32)))
def X4_replace (s0 : ST) (v1 : Int32) (v2 : Int32) : Option (ST) :=
gd (inb v1 8) <|
nm (sA s0 2 (upd (s0.2.1 2) (v1).toNatClampNeg v2)) fun s2 =>
nm (sI s2 4 ((s2.1 4) + (1 : Int32))) fun s4 =>
some s4
def X6_change (s0 : ST) (v1 : Int32) (v2 : Int32) : Option (Int32 × ST) :=
bd (X4_isNumber s0 v1) fun r2 =>
if r2 = 0 then (
some ((-1 : Int32), s0))
else (
bd (X4_isSet s0 v2) fun r5 =>
if r5 = 0 then (
some ((-2 : Int32), s0))
else (
gd (inb v1 8) <|
nm (s0.2.1 2 (v1).toNatClampNeg) fun v3_8 =>
bd (X4_replace s0 v1 v2) fun s11 =>
some (v3_8, s11)))
def X4_remove_L1_b  (rec : Int32 → ST → Option (ST)) (v2 : Int32) (s0 : ST) : Option (ST) :=
if (s0.1 3) ≤ (v2 + (1 : Int32)) then (
some s0)
else (
gd (inb (v2 + (1 : Int32)) 8) <|
gd (inb v2 8) <|
nm (sA s0 2 (upd (s0.2.1 2) (v2).toNatClampNeg (s0.2.1 2 ((v2 + (1 : Int32))).toNatClampNeg))) fun s4 =>
nm (v2 + (1 : Int32)) fun v2_6 =>
rec v2_6 s4)
def X4_remove_L1  : Nat → Int32 → ST → Option (ST)
  | 0 => fun _ _ => none
  | k + 1 => X4_remove_L1_b  (X4_remove_L1  k)
def X4_remove (n : Nat) (s0 : ST) (v1 : Int32) : Option (ST) :=
bd (X4_remove_L1 n v1 s0) fun e8 =>
nm (sI e8 3 ((e8.1 3) - (1 : Int32))) fun s10 =>
nm (sI s10 4 ((s10.1 4) + (1 : Int32))) fun s12 =>
some s12
def X6_drop (n : Nat) (s0 : ST) (v1 : Int32) : Option (Int32 × ST) :=
bd (X4_isNumber s0 v1) fun r2 =>
if r2 = 0 then (
some ((-1 : Int32), s0))
else (
bd (X4_remove n s0 v1) fun s5 =>
some ((s5.1 3), s5))
def X6_set (s0 : ST) (v1 : Int32) : Option (Int32) :=
bd (X4_isNumber s0 v1) fun r2 =>
if r2 = 0 then (
some (-1 : Int32))
else (
gd (inb v1 8) <|
some (s0.2.1 2 (v1).toNatClampNeg))
def X6_isSide (v0 : Int32) : Option (Int32) :=
if v0 < 0 then (
some (0 : Int32))
else (
if (4 : Int32) ≤ v0 then (
some (0 : Int32))
else (
some (1 : Int32)))
def X1_begin_13_L1_b  (rec : Int32 → ST → Option (ST)) (v1 : Int32) (s0 : ST) : Option (ST) :=
if (4 : Int32) ≤ v1 then (
some s0)
else (
gd (inb v1 4) <|
nm (sJ s0 2 (vp_updL (s0.2.2 2) (v1).toNatClampNeg (0 : Int64))) fun s6 =>
nm (v1 + (1 : Int32)) fun v1_8 =>
rec v1_8 s6)
def X1_begin_13_L1  : Nat → Int32 → ST → Option (ST)
  | 0 => fun _ _ => none
  | k + 1 => X1_begin_13_L1_b  (X1_begin_13_L1  k)
def X1_begin_13 (n : Nat) (s0 : ST)  : Option (ST) :=
gd (inb (0 : Int32) 4) <|
nm (sJ s0 2 (vp_updL (s0.2.2 2) ((0 : Int32)).toNatClampNeg (1 : Int64))) fun s2 =>
bd (X1_begin_13_L1 n (1 : Int32) s2) fun e10 =>
some e10
def X6_has (v0 : Int32) (v1 : Int32) : Option (Int32) :=
if ((v0 >>> (v1 &&& 31)) &&& (1 : Int32)) = (1 : Int32) then (
some (1 : Int32))
else (
some (0 : Int32))
def X1_spread_13_L1_b (v2 : Int32) (rec : Int32 → ST → Option (ST)) (v3 : Int32) (s0 : ST) : Option (ST) :=
if (4 : Int32) ≤ (v3 + v2) then (
some s0)
else (
if (v3 &&& v2) = 0 then (
gd (inb (v3 + v2) 4) <|
gd (inb v3 4) <|
gd (inb (v3 + v2) 4) <|
nm (sJ s0 2 (vp_updL (s0.2.2 2) ((v3 + v2)).toNatClampNeg ((s0.2.2 2 ((v3 + v2)).toNatClampNeg) ||| (s0.2.2 3 (v3).toNatClampNeg)))) fun s11 =>
nm (v3 + (1 : Int32)) fun v3_13 =>
rec v3_13 s11)
else (
nm (v3 + (1 : Int32)) fun v3_6 =>
rec v3_6 s0))
def X1_spread_13_L1 (v2 : Int32) : Nat → Int32 → ST → Option (ST)
  | 0 => fun _ _ => none
  | k + 1 => X1_spread_13_L1_b v2 (X1_spread_13_L1 v2 k)
def X1_spread_13_L2_b (v1 : Int32) (rec : Int32 → ST → Option (ST)) (v2 : Int32) (s0 : ST) : Option (ST) :=
if (4 : Int32) ≤ v2 then (
some s0)
else (
gd (inb v2 4) <|
gd (inb v2 4) <|
gd (inb v1 6) <|
gd (inb v2 4) <|
nm (sJ s0 2 (vp_updL (s0.2.2 2) (v2).toNatClampNeg ((s0.2.2 2 (v2).toNatClampNeg) ||| (((s0.2.2 3 (v2).toNatClampNeg) &&& (lackJ (v1).toNatClampNeg)) <<< ((((1 : Int32) <<< (v1 &&& 31))).toInt64 &&& 63))))) fun s22 =>
nm (v2 + (1 : Int32)) fun v2_24 =>
rec v2_24 s22)
def X1_spread_13_L2 (v1 : Int32) : Nat → Int32 → ST → Option (ST)
  | 0 => fun _ _ => none
  | k + 1 => X1_spread_13_L2_b v1 (X1_spread_13_L2 v1 k)
def X1_spread_13 (n : Nat) (s0 : ST) (v1 : Int32) : Option (ST) :=
if (6 : Int32) ≤ v1 then (
nm ((1 : Int32) <<< ((v1 - (6 : Int32)) &&& 31)) fun v2_2 =>
bd (X1_spread_13_L1 v2_2 n (0 : Int32) s0) fun e15 =>
some e15)
else (
bd (X1_spread_13_L2 v1 n (0 : Int32) s0) fun e26 =>
some e26)
def X1_join_13_L1_b  (rec : Int32 → ST → Option (ST)) (v2 : Int32) (s0 : ST) : Option (ST) :=
if (4 : Int32) ≤ v2 then (
some s0)
else (
gd (inb v2 4) <|
gd (inb v2 4) <|
nm (sJ s0 3 (vp_updL (s0.2.2 3) (v2).toNatClampNeg (s0.2.2 2 (v2).toNatClampNeg))) fun s4 =>
nm (v2 + (1 : Int32)) fun v2_6 =>
rec v2_6 s4)
def X1_join_13_L1  : Nat → Int32 → ST → Option (ST)
  | 0 => fun _ _ => none
  | k + 1 => X1_join_13_L1_b  (X1_join_13_L1  k)
def X1_join_13_L2_b (n : Nat) (v1 : Int32) (rec : Int32 → ST → Option (ST)) (v2 : Int32) (s0 : ST) : Option (ST) :=
if (8 : Int32) ≤ v2 then (
some s0)
else (
bd (X6_has v1 v2) fun r11 =>
if r11 = 0 then (
nm (v2 + (1 : Int32)) fun v2_14 =>
rec v2_14 s0)
else (
bd (X1_spread_13 n s0 v2) fun s17 =>
nm (v2 + (1 : Int32)) fun v2_18 =>
rec v2_18 s17))
def X1_join_13_L2 (n : Nat) (v1 : Int32) : Nat → Int32 → ST → Option (ST)
  | 0 => fun _ _ => none
  | k + 1 => X1_join_13_L2_b n v1 (X1_join_13_L2 n v1 k)
def X1_join_13 (n : Nat) (s0 : ST) (v1 : Int32) : Option (ST) :=
bd (X1_join_13_L1 n (0 : Int32) s0) fun e8 =>
bd (X1_join_13_L2 n v1 n (0 : Int32) e8) fun e20 =>
some e20
def X1_holds_13 (s0 : ST) (v1 : Int32) : Option (Int32) :=
gd (inb (v1 >>> ((6 : Int32) &&& 31)) 4) <|
if (lg_cmp ((((s0.2.2 2 ((v1 >>> ((6 : Int32) &&& 31))).toNatClampNeg)).toUInt64 >>> (((v1 &&& (63 : Int32))).toInt64.toUInt64 &&& Int64.toUInt64 63)).toInt64 &&& (1 : Int64)) (1 : Int64)) = 0 then (
some (1 : Int32))
else (
some (0 : Int32))
def X2_greatestWithin_a16_L1_b (s0 : ST) (v2 : Int32) (rec : Int32 → Int32 → Option (Int32)) (v4 : Int32) (v3 : Int32) : Option (Int32) :=
if (s0.1 20) ≤ v4 then (
some v3)
else (
bd (X6_has v2 v4) fun r2 =>
if r2 = 0 then (
nm (v4 + (1 : Int32)) fun v4_5 =>
rec v4_5 v3)
else (
gd (inb (v2 &&& (((1 : Int32) <<< (v4 &&& 31)) ^^^ (-1 : Int32))) 256) <|
nm (if v3 < (s0.2.1 6 ((v2 &&& (((1 : Int32) <<< (v4 &&& 31)) ^^^ (-1 : Int32)))).toNatClampNeg) then (s0.2.1 6 ((v2 &&& (((1 : Int32) <<< (v4 &&& 31)) ^^^ (-1 : Int32)))).toNatClampNeg) else v3) fun r8 =>
nm (v4 + (1 : Int32)) fun v4_10 =>
rec v4_10 r8))
def X2_greatestWithin_a16_L1 (s0 : ST) (v2 : Int32) : Nat → Int32 → Int32 → Option (Int32)
  | 0 => fun _ _ => none
  | k + 1 => X2_greatestWithin_a16_L1_b s0 v2 (X2_greatestWithin_a16_L1 s0 v2 k)
def X2_greatestWithin_a16 (n : Nat) (s0 : ST) (v2 : Int32) : Option (Int32) :=
bd (X2_greatestWithin_a16_L1 s0 v2 n (0 : Int32) (0 : Int32)) fun e12 =>
some e12
def X2_fill_a16_a13_L1_b (n : Nat)  (rec : Int32 → ST → Option (ST)) (v3 : Int32) (s0 : ST) : Option (ST) :=
if (s0.1 21) < v3 then (
some s0)
else (
bd (X1_holds_13 s0 v3) fun r3 =>
if r3 = 0 then (
bd (X2_greatestWithin_a16 n s0 v3) fun r6 =>
gd (inb v3 256) <|
nm (sA s0 6 (upd (s0.2.1 6) (v3).toNatClampNeg r6)) fun s8 =>
nm (v3 + (1 : Int32)) fun v3_10 =>
rec v3_10 s8)
else (
bd (J6_bitCount v3) fun r12 =>
gd (inb v3 256) <|
nm (sA s0 6 (upd (s0.2.1 6) (v3).toNatClampNeg r12)) fun s15 =>
nm (v3 + (1 : Int32)) fun v3_17 =>
rec v3_17 s15))
def X2_fill_a16_a13_L1 (n : Nat)  : Nat → Int32 → ST → Option (ST)
  | 0 => fun _ _ => none
  | k + 1 => X2_fill_a16_a13_L1_b n (X2_fill_a16_a13_L1 n k)
def X2_fill_a16_a13 (n : Nat) (s0 : ST)  : Option (ST) :=
bd (X2_fill_a16_a13_L1 n n (0 : Int32) s0) fun e19 =>
some e19
def X1_begin_10_L1_b  (rec : Int32 → ST → Option (ST)) (v1 : Int32) (s0 : ST) : Option (ST) :=
if (4 : Int32) ≤ v1 then (
some s0)
else (
gd (inb v1 4) <|
nm (sJ s0 0 (vp_updL (s0.2.2 0) (v1).toNatClampNeg (0 : Int64))) fun s6 =>
nm (v1 + (1 : Int32)) fun v1_8 =>
rec v1_8 s6)
def X1_begin_10_L1  : Nat → Int32 → ST → Option (ST)
  | 0 => fun _ _ => none
  | k + 1 => X1_begin_10_L1_b  (X1_begin_10_L1  k)
def X1_begin_10 (n : Nat) (s0 : ST)  : Option (ST) :=
gd (inb (0 : Int32) 4) <|
nm (sJ s0 0 (vp_updL (s0.2.2 0) ((0 : Int32)).toNatClampNeg (1 : Int64))) fun s2 =>
bd (X1_begin_10_L1 n (1 : Int32) s2) fun e10 =>
some e10
def X1_spread_10_L1_b (v2 : Int32) (rec : Int32 → ST → Option (ST)) (v3 : Int32) (s0 : ST) : Option (ST) :=
if (4 : Int32) ≤ (v3 + v2) then (
some s0)
else (
if (v3 &&& v2) = 0 then (
gd (inb (v3 + v2) 4) <|
gd (inb v3 4) <|
gd (inb (v3 + v2) 4) <|
nm (sJ s0 0 (vp_updL (s0.2.2 0) ((v3 + v2)).toNatClampNeg ((s0.2.2 0 ((v3 + v2)).toNatClampNeg) ||| (s0.2.2 1 (v3).toNatClampNeg)))) fun s11 =>
nm (v3 + (1 : Int32)) fun v3_13 =>
rec v3_13 s11)
else (
nm (v3 + (1 : Int32)) fun v3_6 =>
rec v3_6 s0))
def X1_spread_10_L1 (v2 : Int32) : Nat → Int32 → ST → Option (ST)
  | 0 => fun _ _ => none
  | k + 1 => X1_spread_10_L1_b v2 (X1_spread_10_L1 v2 k)
def X1_spread_10_L2_b (v1 : Int32) (rec : Int32 → ST → Option (ST)) (v2 : Int32) (s0 : ST) : Option (ST) :=
if (4 : Int32) ≤ v2 then (
some s0)
else (
gd (inb v2 4) <|
gd (inb v2 4) <|
gd (inb v1 6) <|
gd (inb v2 4) <|
nm (sJ s0 0 (vp_updL (s0.2.2 0) (v2).toNatClampNeg ((s0.2.2 0 (v2).toNatClampNeg) ||| (((s0.2.2 1 (v2).toNatClampNeg) &&& (lackJ (v1).toNatClampNeg)) <<< ((((1 : Int32) <<< (v1 &&& 31))).toInt64 &&& 63))))) fun s22 =>
nm (v2 + (1 : Int32)) fun v2_24 =>
rec v2_24 s22)
def X1_spread_10_L2 (v1 : Int32) : Nat → Int32 → ST → Option (ST)
  | 0 => fun _ _ => none
  | k + 1 => X1_spread_10_L2_b v1 (X1_spread_10_L2 v1 k)
def X1_spread_10 (n : Nat) (s0 : ST) (v1 : Int32) : Option (ST) :=
if (6 : Int32) ≤ v1 then (
nm ((1 : Int32) <<< ((v1 - (6 : Int32)) &&& 31)) fun v2_2 =>
bd (X1_spread_10_L1 v2_2 n (0 : Int32) s0) fun e15 =>
some e15)
else (
bd (X1_spread_10_L2 v1 n (0 : Int32) s0) fun e26 =>
some e26)
def X1_join_10_L1_b  (rec : Int32 → ST → Option (ST)) (v2 : Int32) (s0 : ST) : Option (ST) :=
if (4 : Int32) ≤ v2 then (
some s0)
else (
gd (inb v2 4) <|
gd (inb v2 4) <|
nm (sJ s0 1 (vp_updL (s0.2.2 1) (v2).toNatClampNeg (s0.2.2 0 (v2).toNatClampNeg))) fun s4 =>
nm (v2 + (1 : Int32)) fun v2_6 =>
rec v2_6 s4)
def X1_join_10_L1  : Nat → Int32 → ST → Option (ST)
  | 0 => fun _ _ => none
  | k + 1 => X1_join_10_L1_b  (X1_join_10_L1  k)
def X1_join_10_L2_b (n : Nat) (v1 : Int32) (rec : Int32 → ST → Option (ST)) (v2 : Int32) (s0 : ST) : Option (ST) :=
if (8 : Int32) ≤ v2 then (
some s0)
else (
bd (X6_has v1 v2) fun r11 =>
if r11 = 0 then (
nm (v2 + (1 : Int32)) fun v2_14 =>
rec v2_14 s0)
else (
bd (X1_spread_10 n s0 v2) fun s17 =>
nm (v2 + (1 : Int32)) fun v2_18 =>
rec v2_18 s17))
def X1_join_10_L2 (n : Nat) (v1 : Int32) : Nat → Int32 → ST → Option (ST)
  | 0 => fun _ _ => none
  | k + 1 => X1_join_10_L2_b n v1 (X1_join_10_L2 n v1 k)
def X1_join_10 (n : Nat) (s0 : ST) (v1 : Int32) : Option (ST) :=
bd (X1_join_10_L1 n (0 : Int32) s0) fun e8 =>
bd (X1_join_10_L2 n v1 n (0 : Int32) e8) fun e20 =>
some e20
def X1_holds_10 (s0 : ST) (v1 : Int32) : Option (Int32) :=
gd (inb (v1 >>> ((6 : Int32) &&& 31)) 4) <|
if (lg_cmp ((((s0.2.2 0 ((v1 >>> ((6 : Int32) &&& 31))).toNatClampNeg)).toUInt64 >>> (((v1 &&& (63 : Int32))).toInt64.toUInt64 &&& Int64.toUInt64 63)).toInt64 &&& (1 : Int64)) (1 : Int64)) = 0 then (
some (1 : Int32))
else (
some (0 : Int32))
def X2_greatestWithin_a17_L1_b (s0 : ST) (v2 : Int32) (rec : Int32 → Int32 → Option (Int32)) (v4 : Int32) (v3 : Int32) : Option (Int32) :=
if (s0.1 20) ≤ v4 then (
some v3)
else (
bd (X6_has v2 v4) fun r2 =>
if r2 = 0 then (
nm (v4 + (1 : Int32)) fun v4_5 =>
rec v4_5 v3)
else (
gd (inb (v2 &&& (((1 : Int32) <<< (v4 &&& 31)) ^^^ (-1 : Int32))) 256) <|
nm (if v3 < (s0.2.1 7 ((v2 &&& (((1 : Int32) <<< (v4 &&& 31)) ^^^ (-1 : Int32)))).toNatClampNeg) then (s0.2.1 7 ((v2 &&& (((1 : Int32) <<< (v4 &&& 31)) ^^^ (-1 : Int32)))).toNatClampNeg) else v3) fun r8 =>
nm (v4 + (1 : Int32)) fun v4_10 =>
rec v4_10 r8))
def X2_greatestWithin_a17_L1 (s0 : ST) (v2 : Int32) : Nat → Int32 → Int32 → Option (Int32)
  | 0 => fun _ _ => none
  | k + 1 => X2_greatestWithin_a17_L1_b s0 v2 (X2_greatestWithin_a17_L1 s0 v2 k)
def X2_greatestWithin_a17 (n : Nat) (s0 : ST) (v2 : Int32) : Option (Int32) :=
bd (X2_greatestWithin_a17_L1 s0 v2 n (0 : Int32) (0 : Int32)) fun e12 =>
some e12
def X2_fill_a17_a10_L1_b (n : Nat)  (rec : Int32 → ST → Option (ST)) (v3 : Int32) (s0 : ST) : Option (ST) :=
if (s0.1 21) < v3 then (
some s0)
else (
bd (X1_holds_10 s0 v3) fun r3 =>
if r3 = 0 then (
bd (X2_greatestWithin_a17 n s0 v3) fun r6 =>
gd (inb v3 256) <|
nm (sA s0 7 (upd (s0.2.1 7) (v3).toNatClampNeg r6)) fun s8 =>
nm (v3 + (1 : Int32)) fun v3_10 =>
rec v3_10 s8)
else (
bd (J6_bitCount v3) fun r12 =>
gd (inb v3 256) <|
nm (sA s0 7 (upd (s0.2.1 7) (v3).toNatClampNeg r12)) fun s15 =>
nm (v3 + (1 : Int32)) fun v3_17 =>
rec v3_17 s15))
def X2_fill_a17_a10_L1 (n : Nat)  : Nat → Int32 → ST → Option (ST)
  | 0 => fun _ _ => none
  | k + 1 => X2_fill_a17_a10_L1_b n (X2_fill_a17_a10_L1 n k)
def X2_fill_a17_a10 (n : Nat) (s0 : ST)  : Option (ST) :=
bd (X2_fill_a17_a10_L1 n n (0 : Int32) s0) fun e19 =>
some e19
def X2_refresh_L1_b (n : Nat)  (rec : Int32 → ST → Option (ST)) (v2 : Int32) (s0 : ST) : Option (ST) :=
if (s0.1 1) ≤ v2 then (
some s0)
else (
bd (X6_has (s0.1 2) v2) fun r11 =>
if r11 = 0 then (
gd (inb v2 8) <|
bd (X1_join_13 n s0 ((s0.2.1 0 (v2).toNatClampNeg) ||| ((1 : Int32) <<< (v2 &&& 31)))) fun s18 =>
nm (v2 + (1 : Int32)) fun v2_19 =>
rec v2_19 s18)
else (
nm (v2 + (1 : Int32)) fun v2_14 =>
rec v2_14 s0))
def X2_refresh_L1 (n : Nat)  : Nat → Int32 → ST → Option (ST)
  | 0 => fun _ _ => none
  | k + 1 => X2_refresh_L1_b n (X2_refresh_L1 n k)
def X2_refresh_L2_b (n : Nat)  (rec : Int32 → ST → Option (ST)) (v2 : Int32) (s0 : ST) : Option (ST) :=
if (s0.1 3) ≤ v2 then (
some s0)
else (
gd (inb v2 8) <|
bd (X1_join_10 n s0 (s0.2.1 2 (v2).toNatClampNeg)) fun s30 =>
nm (v2 + (1 : Int32)) fun v2_31 =>
rec v2_31 s30)
def X2_refresh_L2 (n : Nat)  : Nat → Int32 → ST → Option (ST)
  | 0 => fun _ _ => none
  | k + 1 => X2_refresh_L2_b n (X2_refresh_L2 n k)
def X2_refresh (n : Nat) (s0 : ST)  : Option (ST) :=
if (s0.1 9) = (s0.1 4) then (
some s0)
else (
nm (sI s0 20 (s0.1 1)) fun s2 =>
bd (X4_all s2) fun r5 =>
nm (sI s2 21 r5) fun s6 =>
bd (X1_begin_13 n s6) fun s9 =>
bd (X2_refresh_L1 n n (0 : Int32) s9) fun e21 =>
bd (X2_fill_a16_a13 n e21) fun s24 =>
bd (X1_begin_10 n s24) fun s26 =>
bd (X2_refresh_L2 n n (0 : Int32) s26) fun e33 =>
bd (X2_fill_a17_a10 n e33) fun s36 =>
nm (sI s36 9 (s36.1 4)) fun s37 =>
some s37)
def X6_freshRanks (n : Nat) (s0 : ST)  : Option (ST) :=
bd (X2_refresh n s0) fun s2 =>
some s2
def X2_of (s0 : ST) (v1 : Int32) (v2 : Int32) : Option (Int32) :=
if v1 = 0 then (
if v1 = (1 : Int32) then (
gd (inb v2 256) <|
some (s0.2.1 6 (v2).toNatClampNeg))
else (
if v1 = (2 : Int32) then (
gd (inb v2 256) <|
some (s0.2.1 6 (v2).toNatClampNeg))
else (
bd (J6_bitCount v2) fun r5 =>
gd (inb ((s0.1 21) &&& (v2 ^^^ (-1 : Int32))) 256) <|
gd (inb (s0.1 21) 256) <|
some ((r5 + (s0.2.1 6 (((s0.1 21) &&& (v2 ^^^ (-1 : Int32)))).toNatClampNeg)) - (s0.2.1 6 ((s0.1 21)).toNatClampNeg)))))
else (
if v1 = (2 : Int32) then (
if v1 = (1 : Int32) then (
gd (inb v2 256) <|
some (s0.2.1 6 (v2).toNatClampNeg))
else (
if v1 = (2 : Int32) then (
gd (inb v2 256) <|
some (s0.2.1 6 (v2).toNatClampNeg))
else (
bd (J6_bitCount v2) fun r22 =>
gd (inb ((s0.1 21) &&& (v2 ^^^ (-1 : Int32))) 256) <|
gd (inb (s0.1 21) 256) <|
some ((r22 + (s0.2.1 6 (((s0.1 21) &&& (v2 ^^^ (-1 : Int32)))).toNatClampNeg)) - (s0.2.1 6 ((s0.1 21)).toNatClampNeg)))))
else (
if v1 = (1 : Int32) then (
gd (inb v2 256) <|
some (s0.2.1 7 (v2).toNatClampNeg))
else (
if v1 = (2 : Int32) then (
gd (inb v2 256) <|
some (s0.2.1 7 (v2).toNatClampNeg))
else (
bd (J6_bitCount v2) fun r14 =>
gd (inb ((s0.1 21) &&& (v2 ^^^ (-1 : Int32))) 256) <|
gd (inb (s0.1 21) 256) <|
some ((r14 + (s0.2.1 7 (((s0.1 21) &&& (v2 ^^^ (-1 : Int32)))).toNatClampNeg)) - (s0.2.1 7 ((s0.1 21)).toNatClampNeg))))))
def X6_rank (n : Nat) (s0 : ST) (v1 : Int32) (v2 : Int32) : Option (Int32 × ST) :=
bd (X6_isSide v1) fun r1 =>
if r1 = 0 then (
some ((-1 : Int32), s0))
else (
bd (X4_isSet s0 v2) fun r5 =>
if r5 = 0 then (
some ((-2 : Int32), s0))
else (
bd (X6_freshRanks n s0) fun s8 =>
bd (X2_of s8 v1 v2) fun r10 =>
some (r10, s8)))
def X2_isFree (s0 : ST) (v1 : Int32) (v2 : Int32) : Option (Int32) :=
bd (X2_of s0 v1 v2) fun r2 =>
bd (J6_bitCount v2) fun r3 =>
if r2 = r3 then (
some (1 : Int32))
else (
some (0 : Int32))
def X6_free (n : Nat) (s0 : ST) (v1 : Int32) (v2 : Int32) : Option (Int32 × ST) :=
bd (X6_isSide v1) fun r1 =>
if r1 = 0 then (
some ((-1 : Int32), s0))
else (
bd (X4_isSet s0 v2) fun r5 =>
if r5 = 0 then (
some ((-2 : Int32), s0))
else (
bd (X6_freshRanks n s0) fun s8 =>
bd (X2_isFree s8 v1 v2) fun r10 =>
if r10 = 0 then (
some ((0 : Int32), s8))
else (
some ((1 : Int32), s8))))
def X2_isBase (s0 : ST) (v1 : Int32) (v2 : Int32) : Option (Int32) :=
bd (X2_isFree s0 v1 v2) fun r2 =>
if r2 = 0 then (
some (0 : Int32))
else (
bd (X2_of s0 v1 v2) fun r5 =>
bd (X2_of s0 v1 (s0.1 21)) fun r7 =>
if r5 = r7 then (
some (1 : Int32))
else (
some (0 : Int32)))
def X2_isCircuit_L1_b (s0 : ST) (v1 : Int32) (v2 : Int32) (rec : Int32 → Option ((Int32) ⊕ (Unit))) (v3 : Int32) : Option ((Int32) ⊕ (Unit)) :=
if (s0.1 20) ≤ v3 then (
some (Sum.inr ()))
else (
bd (X6_has v2 v3) fun r5 =>
if r5 = 0 then (
nm (v3 + (1 : Int32)) fun v3_8 =>
rec v3_8)
else (
bd (X2_isFree s0 v1 (v2 &&& (((1 : Int32) <<< (v3 &&& 31)) ^^^ (-1 : Int32)))) fun r11 =>
if r11 = 0 then (
some (Sum.inl (0 : Int32)))
else (
nm (v3 + (1 : Int32)) fun v3_13 =>
rec v3_13)))
def X2_isCircuit_L1 (s0 : ST) (v1 : Int32) (v2 : Int32) : Nat → Int32 → Option ((Int32) ⊕ (Unit))
  | 0 => fun _ => none
  | k + 1 => X2_isCircuit_L1_b s0 v1 v2 (X2_isCircuit_L1 s0 v1 v2 k)
def X2_isCircuit (n : Nat) (s0 : ST) (v1 : Int32) (v2 : Int32) : Option (Int32) :=
bd (X2_isFree s0 v1 v2) fun r2 =>
if r2 = 0 then (
bd (X2_isCircuit_L1 s0 v1 v2 n (0 : Int32)) fun e15 =>
sm e15 (fun rv => some rv) fun e17 =>
some (1 : Int32))
else (
some (0 : Int32))
def X2_shutOf_L1_b (s0 : ST) (v1 : Int32) (v2 : Int32) (rec : Int32 → Int32 → Option (Int32)) (v4 : Int32) (v3 : Int32) : Option (Int32) :=
if (s0.1 20) ≤ v4 then (
some v3)
else (
bd (X2_of s0 v1 (v2 ||| ((1 : Int32) <<< (v4 &&& 31)))) fun r3 =>
bd (X2_of s0 v1 v2) fun r5 =>
if r3 = r5 then (
nm (v3 ||| ((1 : Int32) <<< (v4 &&& 31))) fun v3_9 =>
nm (v4 + (1 : Int32)) fun v4_11 =>
rec v4_11 v3_9)
else (
nm (v4 + (1 : Int32)) fun v4_7 =>
rec v4_7 v3))
def X2_shutOf_L1 (s0 : ST) (v1 : Int32) (v2 : Int32) : Nat → Int32 → Int32 → Option (Int32)
  | 0 => fun _ _ => none
  | k + 1 => X2_shutOf_L1_b s0 v1 v2 (X2_shutOf_L1 s0 v1 v2 k)
def X2_shutOf (n : Nat) (s0 : ST) (v1 : Int32) (v2 : Int32) : Option (Int32) :=
bd (X2_shutOf_L1 s0 v1 v2 n (0 : Int32) v2) fun e13 =>
some e13
def X2_isOf (n : Nat) (s0 : ST) (v1 : Int32) (v2 : Int32) (v3 : Int32) : Option (Int32) :=
if v1 = (0 : Int32) then (
bd (X2_isBase s0 v2 v3) fun r3 =>
gd (bz r3) <|
some r3)
else (
if v1 = (1 : Int32) then (
bd (X2_isCircuit n s0 v2 v3) fun r7 =>
gd (bz r7) <|
some r7)
else (
if v1 = (2 : Int32) then (
bd (X2_shutOf n s0 v2 v3) fun r11 =>
if r11 = v3 then (
some (1 : Int32))
else (
some (0 : Int32)))
else (
some (0 : Int32))))
def X6_listed_L1_b (n : Nat) (s0 : ST) (v5 : Int32) (v1 : Int32) (v2 : Int32) (v3 : Int32) (rec : Int32 → Int32 → Option ((Int32 × ST) ⊕ (Int32))) (v7 : Int32) (v6 : Int32) : Option ((Int32 × ST) ⊕ (Int32)) :=
if v5 < v7 then (
some (Sum.inr v6))
else (
bd (X2_isOf n s0 v1 v2 v7) fun r11 =>
if r11 = 0 then (
nm (v7 + (1 : Int32)) fun v7_18 =>
rec v7_18 v6)
else (
if v6 = v3 then (
some (Sum.inl (v7, s0)))
else (
nm (v6 + (1 : Int32)) fun v6_14 =>
nm (v7 + (1 : Int32)) fun v7_16 =>
rec v7_16 v6_14)))
def X6_listed_L1 (n : Nat) (s0 : ST) (v5 : Int32) (v1 : Int32) (v2 : Int32) (v3 : Int32) : Nat → Int32 → Int32 → Option ((Int32 × ST) ⊕ (Int32))
  | 0 => fun _ _ => none
  | k + 1 => X6_listed_L1_b n s0 v5 v1 v2 v3 (X6_listed_L1 n s0 v5 v1 v2 v3 k)
def X6_listed (n : Nat) (s0 : ST) (v1 : Int32) (v2 : Int32) (v3 : Int32) : Option (Int32 × ST) :=
bd (X6_isSide v2) fun r1 =>
if r1 = 0 then (
some ((-1 : Int32), s0))
else (
if (-1 : Int32) ≤ v3 then (
bd (X6_freshRanks n s0) fun s6 =>
bd (X4_all s6) fun r8 =>
bd (X6_listed_L1 n s6 r8 v1 v2 v3 n (0 : Int32) (0 : Int32)) fun e20 =>
sm e20 (fun rv => some rv) fun e22 =>
if v3 = (-1 : Int32) then (
some (e22, s6))
else (
some ((-1 : Int32), s6)))
else (
some ((-1 : Int32), s0)))
def X6_base (n : Nat) (s0 : ST) (v1 : Int32) (v2 : Int32) : Option (Int32 × ST) :=
bd2 (X6_listed n s0 (0 : Int32) v1 v2) fun r3 s2 =>
some (r3, s2)
def X6_circuit (n : Nat) (s0 : ST) (v1 : Int32) (v2 : Int32) : Option (Int32 × ST) :=
bd2 (X6_listed n s0 (1 : Int32) v1 v2) fun r3 s2 =>
some (r3, s2)
def X6_flat (n : Nat) (s0 : ST) (v1 : Int32) (v2 : Int32) : Option (Int32 × ST) :=
bd2 (X6_listed n s0 (2 : Int32) v1 v2) fun r3 s2 =>
some (r3, s2)
def X6_shut (n : Nat) (s0 : ST) (v1 : Int32) (v2 : Int32) : Option (Int32 × ST) :=
bd (X6_isSide v1) fun r1 =>
if r1 = 0 then (
some ((-1 : Int32), s0))
else (
bd (X4_isSet s0 v2) fun r5 =>
if r5 = 0 then (
some ((-2 : Int32), s0))
else (
bd (X6_freshRanks n s0) fun s8 =>
bd (X2_shutOf n s8 v1 v2) fun r10 =>
some (r10, s8)))
def X6_isEither (v0 : Int32) : Option (Int32) :=
if v0 = 0 then (
some (1 : Int32))
else (
if v0 = (1 : Int32) then (
some (1 : Int32))
else (
some (0 : Int32)))
def X2_boundOf_L1_b (s0 : ST) (v1 : Int32) (rec : Int32 → Int32 → Option (Int32)) (v3 : Int32) (v2 : Int32) : Option (Int32) :=
if (s0.1 20) ≤ v3 then (
some v2)
else (
bd (X2_of s0 v1 ((s0.1 21) &&& (((1 : Int32) <<< (v3 &&& 31)) ^^^ (-1 : Int32)))) fun r3 =>
bd (X2_of s0 v1 (s0.1 21)) fun r5 =>
if r5 ≤ r3 then (
nm (v3 + (1 : Int32)) fun v3_7 =>
rec v3_7 v2)
else (
nm (v2 ||| ((1 : Int32) <<< (v3 &&& 31))) fun v2_9 =>
nm (v3 + (1 : Int32)) fun v3_11 =>
rec v3_11 v2_9))
def X2_boundOf_L1 (s0 : ST) (v1 : Int32) : Nat → Int32 → Int32 → Option (Int32)
  | 0 => fun _ _ => none
  | k + 1 => X2_boundOf_L1_b s0 v1 (X2_boundOf_L1 s0 v1 k)
def X2_boundOf (n : Nat) (s0 : ST) (v1 : Int32) : Option (Int32) :=
bd (X2_boundOf_L1 s0 v1 n (0 : Int32) (0 : Int32)) fun e13 =>
some e13
def X6_loops (n : Nat) (s0 : ST) (v1 : Int32) (v2 : Int32) : Option (Int32 × ST) :=
bd (X6_isSide v1) fun r1 =>
if r1 = 0 then (
some ((-1 : Int32), s0))
else (
bd (X6_isEither v2) fun r4 =>
if r4 = 0 then (
some ((-1 : Int32), s0))
else (
bd (X6_freshRanks n s0) fun s8 =>
if v2 = 0 then (
bd (X2_shutOf n s8 v1 (0 : Int32)) fun r13 =>
some (r13, s8))
else (
bd (X2_boundOf n s8 v1) fun r11 =>
some (r11, s8))))
def X2_roundOf_L1_b (s0 : ST) (v1 : Int32) (v2 : Int32) (rec : Int32 → Int32 → Option (Int32)) (v4 : Int32) (v3 : Int32) : Option (Int32) :=
if (s0.1 20) ≤ v4 then (
some v3)
else (
bd (X6_has v2 v4) fun r2 =>
if r2 = 0 then (
nm (v4 + (1 : Int32)) fun v4_5 =>
rec v4_5 v3)
else (
bd (X2_isBase s0 v1 (v2 &&& (((1 : Int32) <<< (v4 &&& 31)) ^^^ (-1 : Int32)))) fun r8 =>
if r8 = 0 then (
nm (v4 + (1 : Int32)) fun v4_10 =>
rec v4_10 v3)
else (
nm (v3 ||| ((1 : Int32) <<< (v4 &&& 31))) fun v3_12 =>
nm (v4 + (1 : Int32)) fun v4_14 =>
rec v4_14 v3_12)))
def X2_roundOf_L1 (s0 : ST) (v1 : Int32) (v2 : Int32) : Nat → Int32 → Int32 → Option (Int32)
  | 0 => fun _ _ => none
  | k + 1 => X2_roundOf_L1_b s0 v1 v2 (X2_roundOf_L1 s0 v1 v2 k)
def X2_roundOf (n : Nat) (s0 : ST) (v1 : Int32) (v2 : Int32) : Option (Int32) :=
bd (X2_roundOf_L1 s0 v1 v2 n (0 : Int32) (0 : Int32)) fun e16 =>
some e16
def X6_round (n : Nat) (s0 : ST) (v1 : Int32) (v2 : Int32) (v3 : Int32) : Option (Int32 × ST) :=
bd (X6_isSide v1) fun r1 =>
if r1 = 0 then (
some ((-1 : Int32), s0))
else (
bd (X4_isPost s0 v3) fun r5 =>
if r5 = 0 then (
some ((-1 : Int32), s0))
else (
bd (X4_isSet s0 v2) fun r8 =>
if r8 = 0 then (
some ((-2 : Int32), s0))
else (
bd (X6_freshRanks n s0) fun s11 =>
bd (X2_isBase s11 v1 v2) fun r13 =>
if r13 = 0 then (
some ((-5 : Int32), s11))
else (
bd (X6_has v2 v3) fun r15 =>
if r15 = 0 then (
bd (X2_roundOf n s11 v1 (v2 ||| ((1 : Int32) <<< (v3 &&& 31)))) fun r19 =>
some (r19, s11))
else (
some ((-5 : Int32), s11))))))
def X2_swapOf_L1_b (s0 : ST) (v1 : Int32) (v2 : Int32) (v3 : Int32) (rec : Int32 → Option ((Int32) ⊕ (Unit))) (v4 : Int32) : Option ((Int32) ⊕ (Unit)) :=
if (s0.1 20) ≤ v4 then (
some (Sum.inr ()))
else (
bd (X6_has v3 v4) fun r2 =>
if r2 = 0 then (
nm (v4 + (1 : Int32)) fun v4_5 =>
rec v4_5)
else (
bd (X2_isBase s0 v1 (v2 ||| ((1 : Int32) <<< (v4 &&& 31)))) fun r8 =>
if r8 = 0 then (
nm (v4 + (1 : Int32)) fun v4_10 =>
rec v4_10)
else (
some (Sum.inl v4))))
def X2_swapOf_L1 (s0 : ST) (v1 : Int32) (v2 : Int32) (v3 : Int32) : Nat → Int32 → Option ((Int32) ⊕ (Unit))
  | 0 => fun _ => none
  | k + 1 => X2_swapOf_L1_b s0 v1 v2 v3 (X2_swapOf_L1 s0 v1 v2 v3 k)
def X2_swapOf (n : Nat) (s0 : ST) (v1 : Int32) (v2 : Int32) (v3 : Int32) : Option (Int32) :=
bd (X2_swapOf_L1 s0 v1 v2 v3 n (0 : Int32)) fun e12 =>
sm e12 (fun rv => some rv) fun e14 =>
some (-5 : Int32)
def X6_swap (n : Nat) (s0 : ST) (v1 : Int32) (v2 : Int32) (v3 : Int32) (v4 : Int32) : Option (Int32 × ST) :=
bd (X6_isSide v1) fun r1 =>
if r1 = 0 then (
some ((-1 : Int32), s0))
else (
bd (X4_isPost s0 v4) fun r5 =>
if r5 = 0 then (
some ((-1 : Int32), s0))
else (
bd (X4_isSet s0 v2) fun r8 =>
if r8 = 0 then (
some ((-2 : Int32), s0))
else (
bd (X4_isSet s0 v3) fun r11 =>
if r11 = 0 then (
some ((-2 : Int32), s0))
else (
bd (X6_freshRanks n s0) fun s14 =>
bd (X2_isBase s14 v1 v2) fun r16 =>
if r16 = 0 then (
some ((-5 : Int32), s14))
else (
bd (X2_isBase s14 v1 v3) fun r19 =>
if r19 = 0 then (
some ((-5 : Int32), s14))
else (
bd (X6_has v2 v4) fun r21 =>
if r21 = 0 then (
some ((-5 : Int32), s14))
else (
bd (X6_has v3 v4) fun r24 =>
if r24 = 0 then (
bd (X2_swapOf n s14 v1 (v2 &&& (((1 : Int32) <<< (v4 &&& 31)) ^^^ (-1 : Int32))) (v3 &&& (v2 ^^^ (-1 : Int32)))) fun r28 =>
some (r28, s14))
else (
some ((-5 : Int32), s14)))))))))
def X2_stepsUp_L2_b (s0 : ST) (v1 : Int32) (v2 : Int32) (v4 : Int32) (rec : Int32 → Int32 → Option (Int32)) (v5 : Int32) (v3 : Int32) : Option (Int32) :=
if (s0.1 20) ≤ v5 then (
some v3)
else (
bd (X6_has v2 v4) fun r5 =>
if r5 = 0 then (
nm (v5 + (1 : Int32)) fun v5_8 =>
rec v5_8 v3)
else (
bd (X6_has v2 v5) fun r10 =>
if r10 = 0 then (
bd (X2_isBase s0 v1 ((v2 &&& (((1 : Int32) <<< (v4 &&& 31)) ^^^ (-1 : Int32))) ||| ((1 : Int32) <<< (v5 &&& 31)))) fun r16 =>
if r16 = 0 then (
nm (v5 + (1 : Int32)) fun v5_18 =>
rec v5_18 v3)
else (
nm (v3 + (1 : Int32)) fun v3_20 =>
nm (v5 + (1 : Int32)) fun v5_22 =>
rec v5_22 v3_20))
else (
nm (v5 + (1 : Int32)) fun v5_13 =>
rec v5_13 v3)))
def X2_stepsUp_L2 (s0 : ST) (v1 : Int32) (v2 : Int32) (v4 : Int32) : Nat → Int32 → Int32 → Option (Int32)
  | 0 => fun _ _ => none
  | k + 1 => X2_stepsUp_L2_b s0 v1 v2 v4 (X2_stepsUp_L2 s0 v1 v2 v4 k)
def X2_stepsUp_L1_b (n : Nat) (s0 : ST) (v1 : Int32) (v2 : Int32) (rec : Int32 → Int32 → Option (Int32)) (v4 : Int32) (v3 : Int32) : Option (Int32) :=
if (s0.1 20) ≤ v4 then (
some v3)
else (
nm (v4 + (1 : Int32)) fun v5_2 =>
bd (X2_stepsUp_L2 s0 v1 v2 v4 n v5_2 v3) fun e24 =>
nm (v4 + (1 : Int32)) fun v4_26 =>
rec v4_26 e24)
def X2_stepsUp_L1 (n : Nat) (s0 : ST) (v1 : Int32) (v2 : Int32) : Nat → Int32 → Int32 → Option (Int32)
  | 0 => fun _ _ => none
  | k + 1 => X2_stepsUp_L1_b n s0 v1 v2 (X2_stepsUp_L1 n s0 v1 v2 k)
def X2_stepsUp (n : Nat) (s0 : ST) (v1 : Int32) (v2 : Int32) : Option (Int32) :=
bd (X2_stepsUp_L1 n s0 v1 v2 n (0 : Int32) (0 : Int32)) fun e28 =>
some e28
def X6_steps_L1_b (n : Nat) (s0 : ST) (v3 : Int32) (v1 : Int32) (rec : Int32 → Int32 → Option (Int32)) (v5 : Int32) (v4 : Int32) : Option (Int32) :=
if v3 < v5 then (
some v4)
else (
bd (X2_isBase s0 v1 v5) fun r10 =>
if r10 = 0 then (
nm (v5 + (1 : Int32)) fun v5_12 =>
rec v5_12 v4)
else (
bd (X2_stepsUp n s0 v1 v5) fun r15 =>
nm (v4 + r15) fun v4_16 =>
nm (v5 + (1 : Int32)) fun v5_18 =>
rec v5_18 v4_16))
def X6_steps_L1 (n : Nat) (s0 : ST) (v3 : Int32) (v1 : Int32) : Nat → Int32 → Int32 → Option (Int32)
  | 0 => fun _ _ => none
  | k + 1 => X6_steps_L1_b n s0 v3 v1 (X6_steps_L1 n s0 v3 v1 k)
def X6_steps (n : Nat) (s0 : ST) (v1 : Int32) : Option (Int32 × ST) :=
bd (X6_isSide v1) fun r1 =>
if r1 = 0 then (
some ((-1 : Int32), s0))
else (
bd (X6_freshRanks n s0) fun s5 =>
bd (X4_all s5) fun r7 =>
bd (X6_steps_L1 n s5 r7 v1 n (0 : Int32) (0 : Int32)) fun e20 =>
some (e20, s5))
def X6_less (n : Nat) (s0 : ST) (v1 : Int32) (v2 : Int32) (v3 : Int32) (v4 : Int32) : Option (Int32 × ST) :=
bd (X6_isSide v1) fun r1 =>
if r1 = 0 then (
some ((-1 : Int32), s0))
else (
bd (X4_isSet s0 v2) fun r5 =>
if r5 = 0 then (
some ((-2 : Int32), s0))
else (
bd (X4_isSet s0 v3) fun r8 =>
if r8 = 0 then (
some ((-2 : Int32), s0))
else (
bd (X4_isSet s0 v4) fun r11 =>
if r11 = 0 then (
some ((-2 : Int32), s0))
else (
if (v2 &&& v3) = 0 then (
if (v2 &&& v4) = 0 then (
if (v3 &&& v4) = 0 then (
bd (X6_freshRanks n s0) fun s17 =>
bd (X2_of s17 v1 (v4 ||| v3)) fun r19 =>
bd (X2_of s17 v1 v3) fun r21 =>
some ((r19 - r21), s17))
else (
some ((-2 : Int32), s0)))
else (
some ((-2 : Int32), s0)))
else (
some ((-2 : Int32), s0))))))
def X4_weightOf_L1_b (s0 : ST) (v1 : Int32) (rec : Int32 → Int32 → Option (Int32)) (v3 : Int32) (v2 : Int32) : Option (Int32) :=
if (s0.1 1) ≤ v3 then (
some v2)
else (
bd (X6_has v1 v3) fun r2 =>
if r2 = 0 then (
nm (v3 + (1 : Int32)) fun v3_5 =>
rec v3_5 v2)
else (
gd (inb v3 8) <|
nm (v2 + (s0.2.1 1 (v3).toNatClampNeg)) fun v2_8 =>
nm (v3 + (1 : Int32)) fun v3_10 =>
rec v3_10 v2_8))
def X4_weightOf_L1 (s0 : ST) (v1 : Int32) : Nat → Int32 → Int32 → Option (Int32)
  | 0 => fun _ _ => none
  | k + 1 => X4_weightOf_L1_b s0 v1 (X4_weightOf_L1 s0 v1 k)
def X4_weightOf (n : Nat) (s0 : ST) (v1 : Int32) : Option (Int32) :=
bd (X4_weightOf_L1 s0 v1 n (0 : Int32) (0 : Int32)) fun e12 =>
some e12
def X6_heaviest_L1_b (n : Nat) (s0 : ST) (v4 : Int32) (v1 : Int32) (rec : Int32 → Int32 → Int32 → Option (Int32 × Int32)) (v7 : Int32) (v6 : Int32) (v5 : Int32) : Option (Int32 × Int32) :=
if v4 < v7 then (
some (v6, v5))
else (
bd (X2_isBase s0 v1 v7) fun r13 =>
if r13 = 0 then (
nm (v7 + (1 : Int32)) fun v7_15 =>
rec v7_15 v6 v5)
else (
bd (X4_weightOf n s0 v7) fun r18 =>
if r18 ≤ v6 then (
nm (v7 + (1 : Int32)) fun v7_20 =>
rec v7_20 v6 v5)
else (
bd (X4_weightOf n s0 v7) fun r23 =>
nm (v7 + (1 : Int32)) fun v7_24 =>
rec v7_24 r23 v7)))
def X6_heaviest_L1 (n : Nat) (s0 : ST) (v4 : Int32) (v1 : Int32) : Nat → Int32 → Int32 → Int32 → Option (Int32 × Int32)
  | 0 => fun _ _ _ => none
  | k + 1 => X6_heaviest_L1_b n s0 v4 v1 (X6_heaviest_L1 n s0 v4 v1 k)
def X6_heaviest (n : Nat) (s0 : ST) (v1 : Int32) (v2 : Int32) : Option (Int32 × ST) :=
bd (X6_isSide v1) fun r1 =>
if r1 = 0 then (
some ((-1 : Int32), s0))
else (
bd (X6_isEither v2) fun r4 =>
if r4 = 0 then (
some ((-1 : Int32), s0))
else (
bd (X6_freshRanks n s0) fun s8 =>
bd (X4_all s8) fun r10 =>
bd (X6_heaviest_L1 n s8 r10 v1 n (0 : Int32) (-1 : Int32) (0 : Int32)) fun e26 =>
if v2 = 0 then (
some (e26.2, s8))
else (
some (e26.1, s8))))
def X6_alike_L1_b (s0 : ST) (v4 : Int32) (v1 : Int32) (v2 : Int32) (rec : Int32 → Option ((Int32 × ST) ⊕ (Unit))) (v5 : Int32) : Option ((Int32 × ST) ⊕ (Unit)) :=
if v4 < v5 then (
some (Sum.inr ()))
else (
bd (X2_of s0 v1 v5) fun r13 =>
bd (X2_of s0 v2 v5) fun r15 =>
if r13 = r15 then (
nm (v5 + (1 : Int32)) fun v5_17 =>
rec v5_17)
else (
some (Sum.inl (v5, s0))))
def X6_alike_L1 (s0 : ST) (v4 : Int32) (v1 : Int32) (v2 : Int32) : Nat → Int32 → Option ((Int32 × ST) ⊕ (Unit))
  | 0 => fun _ => none
  | k + 1 => X6_alike_L1_b s0 v4 v1 v2 (X6_alike_L1 s0 v4 v1 v2 k)
def X6_alike (n : Nat) (s0 : ST) (v1 : Int32) (v2 : Int32) : Option (Int32 × ST) :=
bd (X6_isSide v1) fun r1 =>
if r1 = 0 then (
some ((-1 : Int32), s0))
else (
bd (X6_isSide v2) fun r4 =>
if r4 = 0 then (
some ((-1 : Int32), s0))
else (
bd (X6_freshRanks n s0) fun s8 =>
bd (X4_all s8) fun r10 =>
bd (X6_alike_L1 s8 r10 v1 v2 n (0 : Int32)) fun e19 =>
sm e19 (fun rv => some rv) fun e21 =>
some ((-5 : Int32), s8)))
def X4_reached_L2_b (s0 : ST) (v2 : Int32) (v3 : Int32) (rec : Int32 → Int32 → Option (Int32)) (v6 : Int32) (v5 : Int32) : Option (Int32) :=
if (s0.1 1) ≤ v6 then (
some v5)
else (
bd (X6_has v3 v6) fun r5 =>
if r5 = 0 then (
nm (v6 + (1 : Int32)) fun v6_8 =>
rec v6_8 v5)
else (
gd (inb v6 8) <|
nm (v5 ||| ((s0.2.1 0 (v6).toNatClampNeg) &&& (v2 ^^^ (-1 : Int32)))) fun v5_11 =>
nm (v6 + (1 : Int32)) fun v6_13 =>
rec v6_13 v5_11))
def X4_reached_L2 (s0 : ST) (v2 : Int32) (v3 : Int32) : Nat → Int32 → Int32 → Option (Int32)
  | 0 => fun _ _ => none
  | k + 1 => X4_reached_L2_b s0 v2 v3 (X4_reached_L2 s0 v2 v3 k)
def X4_reached_L1_b (n : Nat) (s0 : ST) (v2 : Int32) (rec : Int32 → Int32 → Option (Int32)) (v4 : Int32) (v3 : Int32) : Option (Int32) :=
if (s0.1 1) ≤ v4 then (
some v3)
else (
bd (X4_reached_L2 s0 v2 v3 n (0 : Int32) v3) fun e15 =>
if e15 = v3 then (
some v3)
else (
nm (v4 + (1 : Int32)) fun v4_18 =>
rec v4_18 e15))
def X4_reached_L1 (n : Nat) (s0 : ST) (v2 : Int32) : Nat → Int32 → Int32 → Option (Int32)
  | 0 => fun _ _ => none
  | k + 1 => X4_reached_L1_b n s0 v2 (X4_reached_L1 n s0 v2 k)
def X4_reached (n : Nat) (s0 : ST) (v1 : Int32) (v2 : Int32) : Option (Int32) :=
nm (v1 &&& (v2 ^^^ (-1 : Int32))) fun v3_1 =>
bd (X4_reached_L1 n s0 v2 n (0 : Int32) v3_1) fun e20 =>
some e20
def X4_isCut (n : Nat) (s0 : ST) (v1 : Int32) (v2 : Int32) : Option (Int32) :=
bd (X4_reached n s0 v1 v2) fun r2 =>
if (r2 &&& (s0.1 2)) = 0 then (
some (1 : Int32))
else (
some (0 : Int32))
def X6_cut_L1_b (n : Nat) (s0 : ST) (v3 : Int32) (v2 : Int32) (v1 : Int32) (rec : Int32 → Option ((Int32 × ST) ⊕ (Unit))) (v4 : Int32) : Option ((Int32 × ST) ⊕ (Unit)) :=
if v3 < v4 then (
some (Sum.inr ()))
else (
bd (J6_bitCount v4) fun r11 =>
if r11 = v2 then (
bd (X4_isCut n s0 v1 v4) fun r17 =>
if r17 = 0 then (
nm (v4 + (1 : Int32)) fun v4_19 =>
rec v4_19)
else (
some (Sum.inl (v4, s0))))
else (
nm (v4 + (1 : Int32)) fun v4_14 =>
rec v4_14))
def X6_cut_L1 (n : Nat) (s0 : ST) (v3 : Int32) (v2 : Int32) (v1 : Int32) : Nat → Int32 → Option ((Int32 × ST) ⊕ (Unit))
  | 0 => fun _ => none
  | k + 1 => X6_cut_L1_b n s0 v3 v2 v1 (X6_cut_L1 n s0 v3 v2 v1 k)
def X6_cut (n : Nat) (s0 : ST) (v1 : Int32) : Option (Int32 × ST) :=
bd (X4_isSet s0 v1) fun r2 =>
if r2 = 0 then (
some ((-2 : Int32), s0))
else (
bd (X6_freshRanks n s0) fun s5 =>
bd (X2_of s5 (0 : Int32) v1) fun r7 =>
bd (X4_all s5) fun r9 =>
bd (X6_cut_L1 n s5 r9 r7 v1 n (0 : Int32)) fun e21 =>
sm e21 (fun rv => some rv) fun e23 =>
some (r9, s5))
def X6_reach (n : Nat) (s0 : ST) (v1 : Int32) : Option (Int32) :=
bd (X4_isSet s0 v1) fun r2 =>
if r2 = 0 then (
some (-2 : Int32))
else (
bd (X4_reached n s0 v1 (0 : Int32)) fun r5 =>
some r5)
def X0_begin (s0 : ST)  : Option (ST) :=
nm (sI s0 10 (0 : Int32)) fun s1 =>
some s1
def X4_setsWith_L1_b (s0 : ST) (v1 : Int32) (rec : Int32 → Int32 → Option (Int32)) (v3 : Int32) (v2 : Int32) : Option (Int32) :=
if (s0.1 3) ≤ v3 then (
some v2)
else (
gd (inb v3 8) <|
bd (X6_has (s0.2.1 2 (v3).toNatClampNeg) v1) fun r3 =>
if r3 = 0 then (
nm (v3 + (1 : Int32)) fun v3_6 =>
rec v3_6 v2)
else (
nm (v2 ||| ((1 : Int32) <<< (v3 &&& 31))) fun v2_8 =>
nm (v3 + (1 : Int32)) fun v3_10 =>
rec v3_10 v2_8))
def X4_setsWith_L1 (s0 : ST) (v1 : Int32) : Nat → Int32 → Int32 → Option (Int32)
  | 0 => fun _ _ => none
  | k + 1 => X4_setsWith_L1_b s0 v1 (X4_setsWith_L1 s0 v1 k)
def X4_setsWith (n : Nat) (s0 : ST) (v1 : Int32) : Option (Int32) :=
bd (X4_setsWith_L1 s0 v1 n (0 : Int32) (0 : Int32)) fun e12 =>
some e12
def X0_ask (s0 : ST) (v1 : Int32) : Option (ST) :=
if (s0.1 10) < (8 : Int32) then (
gd (inb (s0.1 10) 8) <|
nm (sA s0 9 (upd (s0.2.1 9) ((s0.1 10)).toNatClampNeg v1)) fun s3 =>
nm (sI s3 10 ((s3.1 10) + (1 : Int32))) fun s5 =>
some s5)
else (
some s0)
def X0_leastOption_L1_b (s0 : ST) (v1 : Int32) (v2 : Int32) (v3 : Int32) (rec : Int32 → Option ((Int32) ⊕ (Unit))) (v4 : Int32) : Option ((Int32) ⊕ (Unit)) :=
if v3 ≤ v4 then (
some (Sum.inr ()))
else (
gd (inb v1 8) <|
bd (X6_has ((s0.2.1 9 (v1).toNatClampNeg) &&& (v2 ^^^ (-1 : Int32))) v4) fun r3 =>
if r3 = 0 then (
nm (v4 + (1 : Int32)) fun v4_6 =>
rec v4_6)
else (
gd (inb (v2 ||| ((1 : Int32) <<< (v4 &&& 31))) 256) <|
if (s0.2.1 10 ((v2 ||| ((1 : Int32) <<< (v4 &&& 31)))).toNatClampNeg) = 0 then (
nm (v4 + (1 : Int32)) fun v4_10 =>
rec v4_10)
else (
some (Sum.inl v4))))
def X0_leastOption_L1 (s0 : ST) (v1 : Int32) (v2 : Int32) (v3 : Int32) : Nat → Int32 → Option ((Int32) ⊕ (Unit))
  | 0 => fun _ => none
  | k + 1 => X0_leastOption_L1_b s0 v1 v2 v3 (X0_leastOption_L1 s0 v1 v2 v3 k)
def X0_leastOption (n : Nat) (s0 : ST) (v1 : Int32) (v2 : Int32) (v3 : Int32) : Option (Int32) :=
bd (X0_leastOption_L1 s0 v1 v2 v3 n (0 : Int32)) fun e12 =>
sm e12 (fun rv => some rv) fun e14 =>
some (-1 : Int32)
def X0_isMade_L1_b (n : Nat) (v1 : Int32) (rec : Int32 → ST → Option (ST)) (v2 : Int32) (s0 : ST) : Option (ST) :=
if v2 < 0 then (
some s0)
else (
bd (J6_bitCount v2) fun r4 =>
if (s0.1 10) ≤ r4 then (
gd (inb v2 256) <|
gd (bz (1 : Int32)) <|
nm (sA s0 10 (upd (s0.2.1 10) (v2).toNatClampNeg (1 : Int32))) fun s8 =>
nm (v2 + (-1 : Int32)) fun v2_11 =>
rec v2_11 s8)
else (
bd (X0_leastOption n s0 r4 v2 v1) fun r14 =>
if r14 = (-1 : Int32) then (
gd (inb v2 256) <|
gd (bz (0 : Int32)) <|
nm (sA s0 10 (upd (s0.2.1 10) (v2).toNatClampNeg (0 : Int32))) fun s17 =>
nm (v2 + (-1 : Int32)) fun v2_20 =>
rec v2_20 s17)
else (
gd (inb v2 256) <|
gd (bz (1 : Int32)) <|
nm (sA s0 10 (upd (s0.2.1 10) (v2).toNatClampNeg (1 : Int32))) fun s23 =>
nm (v2 + (-1 : Int32)) fun v2_26 =>
rec v2_26 s23)))
def X0_isMade_L1 (n : Nat) (v1 : Int32) : Nat → Int32 → ST → Option (ST)
  | 0 => fun _ _ => none
  | k + 1 => X0_isMade_L1_b n v1 (X0_isMade_L1 n v1 k)
def X0_isMade_L2_b (n : Nat) (v1 : Int32) (rec : Int32 → Int32 → ST → Option ((Int32 × ST) ⊕ (ST))) (v3 : Int32) (v2 : Int32) (s0 : ST) : Option ((Int32 × ST) ⊕ (ST)) :=
if (s0.1 10) ≤ v3 then (
some (Sum.inr s0))
else (
bd (X0_leastOption n s0 v3 v2 v1) fun r34 =>
if r34 = (-1 : Int32) then (
some (Sum.inl ((0 : Int32), s0)))
else (
gd (inb v3 8) <|
nm (sA s0 8 (upd (s0.2.1 8) (v3).toNatClampNeg r34)) fun s37 =>
nm (v2 ||| ((1 : Int32) <<< (r34 &&& 31))) fun v2_39 =>
nm (v3 + (1 : Int32)) fun v3_41 =>
rec v3_41 v2_39 s37))
def X0_isMade_L2 (n : Nat) (v1 : Int32) : Nat → Int32 → Int32 → ST → Option ((Int32 × ST) ⊕ (ST))
  | 0 => fun _ _ _ => none
  | k + 1 => X0_isMade_L2_b n v1 (X0_isMade_L2 n v1 k)
def X0_isMade (n : Nat) (s0 : ST) (v1 : Int32) : Option (Int32 × ST) :=
nm (((1 : Int32) <<< (v1 &&& 31)) - (1 : Int32)) fun v2_1 =>
bd (X0_isMade_L1 n v1 n v2_1 s0) fun e28 =>
gd (inb (0 : Int32) 256) <|
if (e28.2.1 10 ((0 : Int32)).toNatClampNeg) = 0 then (
some ((0 : Int32), e28))
else (
bd (X0_isMade_L2 n v1 n (0 : Int32) (0 : Int32) e28) fun e43 =>
sm e43 (fun rv => some rv) fun e45 =>
some ((1 : Int32), e45))
def X6_partners_L1_b (n : Nat) (v1 : Int32) (rec : Int32 → ST → Option (ST)) (v2 : Int32) (s0 : ST) : Option (ST) :=
if (s0.1 1) ≤ v2 then (
some s0)
else (
bd (X6_has v1 v2) fun r7 =>
if r7 = 0 then (
nm (v2 + (1 : Int32)) fun v2_10 =>
rec v2_10 s0)
else (
bd (X4_setsWith n s0 v2) fun r13 =>
bd (X0_ask s0 r13) fun s15 =>
nm (v2 + (1 : Int32)) fun v2_16 =>
rec v2_16 s15))
def X6_partners_L1 (n : Nat) (v1 : Int32) : Nat → Int32 → ST → Option (ST)
  | 0 => fun _ _ => none
  | k + 1 => X6_partners_L1_b n v1 (X6_partners_L1 n v1 k)
def X6_partners_L2_b (s0 : ST)  (rec : Int32 → Int32 → Option (Int32)) (v3 : Int32) (v2 : Int32) : Option (Int32) :=
if (s0.1 10) ≤ v3 then (
some v2)
else (
gd (inb v3 8) <|
nm (((v2 * (10 : Int32)) + (s0.2.1 8 (v3).toNatClampNeg)) + (1 : Int32)) fun v2_26 =>
nm (v3 + (1 : Int32)) fun v3_28 =>
rec v3_28 v2_26)
def X6_partners_L2 (s0 : ST)  : Nat → Int32 → Int32 → Option (Int32)
  | 0 => fun _ _ => none
  | k + 1 => X6_partners_L2_b s0 (X6_partners_L2 s0 k)
def X6_partners (n : Nat) (s0 : ST) (v1 : Int32) : Option (Int32 × ST) :=
bd (X4_isSet s0 v1) fun r2 =>
if r2 = 0 then (
some ((-2 : Int32), s0))
else (
bd (X0_begin s0) fun s5 =>
bd (X6_partners_L1 n v1 n (0 : Int32) s5) fun e18 =>
bd2 (X0_isMade n e18 (e18.1 3)) fun r22 s21 =>
if r22 = 0 then (
some ((-5 : Int32), s21))
else (
bd (X6_partners_L2 s21 n (0 : Int32) (0 : Int32)) fun e30 =>
some (e30, s21)))
def X4_turn_L1_b  (rec : Int32 → ST → Option (ST)) (v1 : Int32) (s0 : ST) : Option (ST) :=
if (s0.1 1) ≤ v1 then (
some s0)
else (
bd (X6_has (s0.1 2) v1) fun r4 =>
if r4 = 0 then (
gd (inb v1 8) <|
bd (X4_join s0 ((s0.2.1 0 (v1).toNatClampNeg) ||| ((1 : Int32) <<< (v1 &&& 31)))) fun s11 =>
nm (v1 + (1 : Int32)) fun v1_12 =>
rec v1_12 s11)
else (
nm (v1 + (1 : Int32)) fun v1_7 =>
rec v1_7 s0))
def X4_turn_L1  : Nat → Int32 → ST → Option (ST)
  | 0 => fun _ _ => none
  | k + 1 => X4_turn_L1_b  (X4_turn_L1  k)
def X4_turn (n : Nat) (s0 : ST)  : Option (ST) :=
nm (sI s0 3 (0 : Int32)) fun s1 =>
bd (X4_turn_L1 n (0 : Int32) s1) fun e14 =>
nm (sI e14 4 ((e14.1 4) + (1 : Int32))) fun s16 =>
some s16
def X6_turned (n : Nat) (s0 : ST)  : Option (Int32 × ST) :=
bd (X4_turn n s0) fun s2 =>
some ((s2.1 3), s2)
def X4_straighten_a19_L1_b  (rec : Int32 → ST → Option (ST)) (v2 : Int32) (s0 : ST) : Option (ST) :=
if (8 : Int32) ≤ v2 then (
some s0)
else (
gd (inb v2 8) <|
nm (sA s0 0 (upd (s0.2.1 0) (v2).toNatClampNeg (0 : Int32))) fun s3 =>
nm (v2 + (1 : Int32)) fun v2_5 =>
rec v2_5 s3)
def X4_straighten_a19_L1  : Nat → Int32 → ST → Option (ST)
  | 0 => fun _ _ => none
  | k + 1 => X4_straighten_a19_L1_b  (X4_straighten_a19_L1  k)
def X4_straighten_a19_L2_b  (rec : Int32 → ST → Option (ST)) (v2 : Int32) (s0 : ST) : Option (ST) :=
if (s0.1 3) ≤ v2 then (
some s0)
else (
gd (inb v2 8) <|
nm ((1 : Int32) <<< ((s0.2.1 8 (v2).toNatClampNeg) &&& 31)) fun v3_15 =>
gd (inb v2 8) <|
gd (inb v2 8) <|
gd (inb (s0.2.1 8 (v2).toNatClampNeg) 8) <|
nm (sA s0 0 (upd (s0.2.1 0) ((s0.2.1 8 (v2).toNatClampNeg)).toNatClampNeg ((s0.2.1 2 (v2).toNatClampNeg) &&& (v3_15 ^^^ (-1 : Int32))))) fun s20 =>
nm (sI s20 2 ((s20.1 2) &&& (v3_15 ^^^ (-1 : Int32)))) fun s22 =>
nm (v2 + (1 : Int32)) fun v2_24 =>
rec v2_24 s22)
def X4_straighten_a19_L2  : Nat → Int32 → ST → Option (ST)
  | 0 => fun _ _ => none
  | k + 1 => X4_straighten_a19_L2_b  (X4_straighten_a19_L2  k)
def X4_straighten_a19 (n : Nat) (s0 : ST)  : Option (ST) :=
bd (X4_straighten_a19_L1 n (0 : Int32) s0) fun e7 =>
bd (X4_all e7) fun r10 =>
nm (sI e7 2 r10) fun s11 =>
bd (X4_straighten_a19_L2 n (0 : Int32) s11) fun e26 =>
nm (sI e26 4 ((e26.1 4) + (1 : Int32))) fun s28 =>
some s28
def X4_countRoads_L1_b (s0 : ST)  (rec : Int32 → Int32 → Option (Int32)) (v2 : Int32) (v1 : Int32) : Option (Int32) :=
if (s0.1 1) ≤ v2 then (
some v1)
else (
gd (inb v2 8) <|
bd (J6_bitCount (s0.2.1 0 (v2).toNatClampNeg)) fun r3 =>
nm (v1 + r3) fun v1_5 =>
nm (v2 + (1 : Int32)) fun v2_7 =>
rec v2_7 v1_5)
def X4_countRoads_L1 (s0 : ST)  : Nat → Int32 → Int32 → Option (Int32)
  | 0 => fun _ _ => none
  | k + 1 => X4_countRoads_L1_b s0 (X4_countRoads_L1 s0 k)
def X4_countRoads (n : Nat) (s0 : ST)  : Option (Int32) :=
bd (X4_countRoads_L1 s0 n (0 : Int32) (0 : Int32)) fun e9 =>
some e9
def X6_strict_L1_b  (rec : Int32 → ST → Option (ST)) (v1 : Int32) (s0 : ST) : Option (ST) :=
if (s0.1 3) ≤ v1 then (
some s0)
else (
gd (inb v1 8) <|
bd (X0_ask s0 (s0.2.1 2 (v1).toNatClampNeg)) fun s6 =>
nm (v1 + (1 : Int32)) fun v1_7 =>
rec v1_7 s6)
def X6_strict_L1  : Nat → Int32 → ST → Option (ST)
  | 0 => fun _ _ => none
  | k + 1 => X6_strict_L1_b  (X6_strict_L1  k)
def X6_strict (n : Nat) (s0 : ST)  : Option (Int32 × ST) :=
bd (X0_begin s0) fun s2 =>
bd (X6_strict_L1 n (0 : Int32) s2) fun e9 =>
bd2 (X0_isMade n e9 (e9.1 1)) fun r13 s12 =>
if r13 = 0 then (
some ((-3 : Int32), s12))
else (
bd (X4_straighten_a19 n s12) fun s16 =>
bd (X4_countRoads n s16) fun r18 =>
some (r18, s16))
def X1_isLike_13_a10_L1_b (s0 : ST)  (rec : Int32 → Option ((Int32) ⊕ (Unit))) (v2 : Int32) : Option ((Int32) ⊕ (Unit)) :=
if (4 : Int32) ≤ v2 then (
some (Sum.inr ()))
else (
gd (inb v2 4) <|
gd (inb v2 4) <|
if (lg_cmp (s0.2.2 2 (v2).toNatClampNeg) (s0.2.2 0 (v2).toNatClampNeg)) = 0 then (
nm (v2 + (1 : Int32)) fun v2_5 =>
rec v2_5)
else (
some (Sum.inl (0 : Int32))))
def X1_isLike_13_a10_L1 (s0 : ST)  : Nat → Int32 → Option ((Int32) ⊕ (Unit))
  | 0 => fun _ => none
  | k + 1 => X1_isLike_13_a10_L1_b s0 (X1_isLike_13_a10_L1 s0 k)
def X1_isLike_13_a10 (n : Nat) (s0 : ST)  : Option (Int32) :=
bd (X1_isLike_13_a10_L1 s0 n (0 : Int32)) fun e7 =>
sm e7 (fun rv => some rv) fun e9 =>
some (1 : Int32)
def X2_stays_L1_b (n : Nat) (v2 : Int32) (v3 : Int32) (rec : Int32 → ST → Option (ST)) (v4 : Int32) (s0 : ST) : Option (ST) :=
if (s0.1 3) ≤ v4 then (
some s0)
else (
if v4 = v2 then (
bd (X1_join_13 n s0 v3) fun s11 =>
nm (v4 + (1 : Int32)) fun v4_12 =>
rec v4_12 s11)
else (
gd (inb v4 8) <|
bd (X1_join_13 n s0 (s0.2.1 2 (v4).toNatClampNeg)) fun s7 =>
nm (v4 + (1 : Int32)) fun v4_8 =>
rec v4_8 s7))
def X2_stays_L1 (n : Nat) (v2 : Int32) (v3 : Int32) : Nat → Int32 → ST → Option (ST)
  | 0 => fun _ _ => none
  | k + 1 => X2_stays_L1_b n v2 v3 (X2_stays_L1 n v2 v3 k)
def X2_stays (n : Nat) (s0 : ST) (v2 : Int32) (v3 : Int32) : Option (Int32 × ST) :=
bd (X1_begin_13 n s0) fun s2 =>
bd (X2_stays_L1 n v2 v3 n (0 : Int32) s2) fun e14 =>
bd (X1_isLike_13_a10 n e14) fun r17 =>
gd (bz r17) <|
some (r17, e14)
def X6_likewise_L1_b (n : Nat) (v4 : Int32) (v1 : Int32) (v2 : Int32) (rec : Int32 → Int32 → ST → Option (Int32 × ST)) (v6 : Int32) (v5 : Int32) (s0 : ST) : Option (Int32 × ST) :=
if (s0.1 1) ≤ v6 then (
some (v5, s0))
else (
bd (X6_has v2 v6) fun r7 =>
if r7 = 0 then (
nm (v6 + (1 : Int32)) fun v6_10 =>
rec v6_10 v5 s0)
else (
bd2 (X2_stays n s0 v1 (v4 ^^^ ((1 : Int32) <<< (v6 &&& 31)))) fun r14 s13 =>
if r14 = 0 then (
nm (v6 + (1 : Int32)) fun v6_16 =>
rec v6_16 v5 s13)
else (
nm (v5 ||| ((1 : Int32) <<< (v6 &&& 31))) fun v5_18 =>
nm (v6 + (1 : Int32)) fun v6_20 =>
rec v6_20 v5_18 s13)))
def X6_likewise_L1 (n : Nat) (v4 : Int32) (v1 : Int32) (v2 : Int32) : Nat → Int32 → Int32 → ST → Option (Int32 × ST)
  | 0 => fun _ _ _ => none
  | k + 1 => X6_likewise_L1_b n v4 v1 v2 (X6_likewise_L1 n v4 v1 v2 k)
def X6_likewise (n : Nat) (s0 : ST) (v1 : Int32) (v2 : Int32) : Option (Int32 × ST) :=
bd (X6_freshRanks n s0) fun s2 =>
gd (inb v1 8) <|
nm (s2.2.1 2 (v1).toNatClampNeg) fun v4_4 =>
bd (X6_likewise_L1 n v4_4 v1 v2 n (0 : Int32) (0 : Int32) s2) fun e22 =>
some (e22.1, e22.2)
def X6_spare (n : Nat) (s0 : ST) (v1 : Int32) : Option (Int32 × ST) :=
bd (X4_isNumber s0 v1) fun r2 =>
if r2 = 0 then (
some ((-1 : Int32), s0))
else (
gd (inb v1 8) <|
bd2 (X6_likewise n s0 v1 (s0.2.1 2 (v1).toNatClampNeg)) fun r7 s6 =>
some (r7, s6))
def X6_room (n : Nat) (s0 : ST) (v1 : Int32) : Option (Int32 × ST) :=
bd (X4_isNumber s0 v1) fun r2 =>
if r2 = 0 then (
some ((-1 : Int32), s0))
else (
bd (X4_all s0) fun r5 =>
gd (inb v1 8) <|
bd2 (X6_likewise n s0 v1 (r5 &&& ((s0.2.1 2 (v1).toNatClampNeg) ^^^ (-1 : Int32)))) fun r9 s8 =>
some (r9, s8))
def X6_idle_L1_b (n : Nat)  (rec : Int32 → Int32 → ST → Option (Int32 × ST)) (v3 : Int32) (v2 : Int32) (s0 : ST) : Option (Int32 × ST) :=
if (s0.1 3) ≤ v3 then (
some (v2, s0))
else (
bd2 (X2_stays n s0 v3 (0 : Int32)) fun r6 s5 =>
if r6 = 0 then (
nm (v3 + (1 : Int32)) fun v3_8 =>
rec v3_8 v2 s5)
else (
nm (v2 ||| ((1 : Int32) <<< (v3 &&& 31))) fun v2_10 =>
nm (v3 + (1 : Int32)) fun v3_12 =>
rec v3_12 v2_10 s5))
def X6_idle_L1 (n : Nat)  : Nat → Int32 → Int32 → ST → Option (Int32 × ST)
  | 0 => fun _ _ _ => none
  | k + 1 => X6_idle_L1_b n (X6_idle_L1 n k)
def X6_idle (n : Nat) (s0 : ST)  : Option (Int32 × ST) :=
bd (X6_freshRanks n s0) fun s2 =>
bd (X6_idle_L1 n n (0 : Int32) (0 : Int32) s2) fun e14 =>
some (e14.1, e14.2)
def X4_removeEmpty_L1_b  (rec : Int32 → Int32 → ST → Option (Int32 × ST)) (v2 : Int32) (v1 : Int32) (s0 : ST) : Option (Int32 × ST) :=
if (s0.1 3) ≤ v2 then (
some (v1, s0))
else (
gd (inb v2 8) <|
if (s0.2.1 2 (v2).toNatClampNeg) = 0 then (
nm (v2 + (1 : Int32)) fun v2_12 =>
rec v2_12 v1 s0)
else (
gd (inb v2 8) <|
gd (inb v1 8) <|
nm (sA s0 2 (upd (s0.2.1 2) (v1).toNatClampNeg (s0.2.1 2 (v2).toNatClampNeg))) fun s6 =>
nm (v1 + (1 : Int32)) fun v1_8 =>
nm (v2 + (1 : Int32)) fun v2_10 =>
rec v2_10 v1_8 s6))
def X4_removeEmpty_L1  : Nat → Int32 → Int32 → ST → Option (Int32 × ST)
  | 0 => fun _ _ _ => none
  | k + 1 => X4_removeEmpty_L1_b  (X4_removeEmpty_L1  k)
def X4_removeEmpty (n : Nat) (s0 : ST)  : Option (ST) :=
bd (X4_removeEmpty_L1 n (0 : Int32) (0 : Int32) s0) fun e14 =>
nm (sI e14.2 3 e14.1) fun s16 =>
nm (sI s16 4 ((s16.1 4) + (1 : Int32))) fun s18 =>
some s18
def X6_small_L2_b (n : Nat) (v3 : Int32) (rec : Int32 → Int32 → ST → Option (Int32 × ST)) (v4 : Int32) (v2 : Int32) (s0 : ST) : Option (Int32 × ST) :=
if (s0.1 1) ≤ v4 then (
some (v2, s0))
else (
gd (inb v3 8) <|
nm ((s0.2.1 2 (v3).toNatClampNeg) &&& (((1 : Int32) <<< (v4 &&& 31)) ^^^ (-1 : Int32))) fun v5_6 =>
gd (inb v3 8) <|
bd (X6_has (s0.2.1 2 (v3).toNatClampNeg) v4) fun r9 =>
if r9 = 0 then (
nm (v4 + (1 : Int32)) fun v4_12 =>
rec v4_12 v2 s0)
else (
bd2 (X2_stays n s0 v3 v5_6) fun r16 s15 =>
if r16 = 0 then (
nm (v4 + (1 : Int32)) fun v4_18 =>
rec v4_18 v2 s15)
else (
bd (X4_replace s15 v3 v5_6) fun s21 =>
nm (v2 + (1 : Int32)) fun v2_22 =>
nm (v4 + (1 : Int32)) fun v4_24 =>
rec v4_24 v2_22 s21)))
def X6_small_L2 (n : Nat) (v3 : Int32) : Nat → Int32 → Int32 → ST → Option (Int32 × ST)
  | 0 => fun _ _ _ => none
  | k + 1 => X6_small_L2_b n v3 (X6_small_L2 n v3 k)
def X6_small_L1_b (n : Nat)  (rec : Int32 → Int32 → ST → Option (Int32 × ST)) (v3 : Int32) (v2 : Int32) (s0 : ST) : Option (Int32 × ST) :=
if (s0.1 3) ≤ v3 then (
some (v2, s0))
else (
bd (X6_small_L2 n v3 n (0 : Int32) v2 s0) fun e26 =>
nm (v3 + (1 : Int32)) fun v3_28 =>
rec v3_28 e26.1 e26.2)
def X6_small_L1 (n : Nat)  : Nat → Int32 → Int32 → ST → Option (Int32 × ST)
  | 0 => fun _ _ _ => none
  | k + 1 => X6_small_L1_b n (X6_small_L1 n k)
def X6_small (n : Nat) (s0 : ST)  : Option (Int32 × ST) :=
bd (X6_freshRanks n s0) fun s2 =>
bd (X6_small_L1 n n (0 : Int32) (0 : Int32) s2) fun e30 =>
bd (X4_removeEmpty n e30.2) fun s33 =>
some (e30.1, s33)
def X6_isRow (v0 : Int32) : Option (Int32) :=
if v0 < 0 then (
some (0 : Int32))
else (
if (3 : Int32) ≤ v0 then (
some (0 : Int32))
else (
some (1 : Int32)))
def X6_row_L1_b (v1 : Int32) (v2 : Int32) (rec : Int32 → ST → Option (ST)) (v3 : Int32) (s0 : ST) : Option (ST) :=
if v2 ≤ v3 then (
some s0)
else (
row3 v1 (
gd (inb v3 40) <|
nm (sA s0 11 (upd (s0.2.1 11) (v3).toNatClampNeg (0 : Int32))) fun s12 =>
nm (v3 + (1 : Int32)) fun v3_14 =>
rec v3_14 s12)
(gd (inb v3 40) <|
nm (sA s0 12 (upd (s0.2.1 12) (v3).toNatClampNeg (0 : Int32))) fun s17 =>
nm (v3 + (1 : Int32)) fun v3_19 =>
rec v3_19 s17)
(gd (inb v3 40) <|
nm (sA s0 13 (upd (s0.2.1 13) (v3).toNatClampNeg (0 : Int32))) fun s22 =>
nm (v3 + (1 : Int32)) fun v3_24 =>
rec v3_24 s22))
def X6_row_L1 (v1 : Int32) (v2 : Int32) : Nat → Int32 → ST → Option (ST)
  | 0 => fun _ _ => none
  | k + 1 => X6_row_L1_b v1 v2 (X6_row_L1 v1 v2 k)
def X6_row (n : Nat) (s0 : ST) (v1 : Int32) (v2 : Int32) : Option (Int32 × ST) :=
bd (X6_isRow v1) fun r1 =>
if r1 = 0 then (
some ((-1 : Int32), s0))
else (
if v2 ≤ (40 : Int32) then (
if 0 ≤ v2 then (
gd (inb v1 3) <|
nm (sA s0 14 (upd (s0.2.1 14) (v1).toNatClampNeg v2)) fun s7 =>
bd (X6_row_L1 v1 v2 n (0 : Int32) s7) fun e26 =>
some ((1 : Int32), e26))
else (
some ((-14 : Int32), s0)))
else (
some ((-2 : Int32), s0)))
def X6_isThere (s0 : ST) (v1 : Int32) : Option (Int32) :=
gd (inb v1 3) <|
if (s0.2.1 14 (v1).toNatClampNeg) = (-1 : Int32) then (
some (0 : Int32))
else (
some (1 : Int32))
def X6_lose (s0 : ST) (v1 : Int32) : Option (Int32 × ST) :=
bd (X6_isRow v1) fun r1 =>
if r1 = 0 then (
some ((-1 : Int32), s0))
else (
bd (X6_isThere s0 v1) fun r5 =>
if r5 = 0 then (
some ((-11 : Int32), s0))
else (
gd (inb v1 3) <|
nm (s0.2.1 14 (v1).toNatClampNeg) fun v2_8 =>
gd (inb v1 3) <|
nm (sA s0 14 (upd (s0.2.1 14) (v1).toNatClampNeg (-1 : Int32))) fun s11 =>
some (v2_8, s11)))
def X6_put (s0 : ST) (v1 : Int32) (v2 : Int32) (v3 : Int32) : Option (Int32 × ST) :=
bd (X6_isRow v1) fun r1 =>
if r1 = 0 then (
some ((-1 : Int32), s0))
else (
bd (X6_isThere s0 v1) fun r5 =>
if r5 = 0 then (
some ((-11 : Int32), s0))
else (
if v2 < 0 then (
some ((-13 : Int32), s0))
else (
gd (inb v1 3) <|
if v2 < (s0.2.1 14 (v1).toNatClampNeg) then (
row3 v1 (
gd (inb v2 40) <|
nm (sA s0 11 (upd (s0.2.1 11) (v2).toNatClampNeg v3)) fun s12 =>
some ((1 : Int32), s12))
(gd (inb v2 40) <|
nm (sA s0 12 (upd (s0.2.1 12) (v2).toNatClampNeg v3)) fun s15 =>
some ((1 : Int32), s15))
(gd (inb v2 40) <|
nm (sA s0 13 (upd (s0.2.1 13) (v2).toNatClampNeg v3)) fun s18 =>
some ((1 : Int32), s18)))
else (
some ((-13 : Int32), s0)))))
def X6_get (s0 : ST) (v1 : Int32) (v2 : Int32) : Option (Int64) :=
bd (X6_isRow v1) fun r1 =>
if r1 = 0 then (
some (-9223372036854775808 : Int64))
else (
if v2 < 0 then (
some (-9223372036854775808 : Int64))
else (
gd (inb v1 3) <|
if v2 < (s0.2.1 14 (v1).toNatClampNeg) then (
row3 v1 (
gd (inb v2 40) <|
some ((s0.2.1 11 (v2).toNatClampNeg)).toInt64)
(gd (inb v2 40) <|
some ((s0.2.1 12 (v2).toNatClampNeg)).toInt64)
(gd (inb v2 40) <|
some ((s0.2.1 13 (v2).toNatClampNeg)).toInt64))
else (
some (-9223372036854775808 : Int64))))
def X6_copy (s0 : ST) (v1 : Int32) (v2 : Int32) (v3 : Int32) (v4 : Int32) (v5 : Int32) : Option (Int32 × ST) :=
bd (X6_isRow v1) fun r1 =>
if r1 = 0 then (
some ((-1 : Int32), s0))
else (
bd (X6_isRow v3) fun r4 =>
if r4 = 0 then (
some ((-1 : Int32), s0))
else (
bd (X6_isThere s0 v1) fun r8 =>
if r8 = 0 then (
some ((-11 : Int32), s0))
else (
bd (X6_isThere s0 v3) fun r11 =>
if r11 = 0 then (
some ((-11 : Int32), s0))
else (
if v5 < 0 then (
some ((-13 : Int32), s0))
else (
if v2 < 0 then (
some ((-13 : Int32), s0))
else (
if 0 ≤ v4 then (
gd (inb v1 3) <|
if ((s0.2.1 14 (v1).toNatClampNeg) - v2) < v5 then (
some ((-13 : Int32), s0))
else (
gd (inb v3 3) <|
if v5 ≤ ((s0.2.1 14 (v3).toNatClampNeg) - v4) then (
row3 v1 (
row3 v3 (
gd (acp v2 v4 v5 40 40) <|
nm (sA s0 11 (va_cpy (s0.2.1 11) (s0.2.1 11) (v2).toNatClampNeg (v4).toNatClampNeg (v5).toNatClampNeg)) fun s23 =>
some (v5, s23))
(gd (acp v2 v4 v5 40 40) <|
nm (sA s0 12 (va_cpy (s0.2.1 11) (s0.2.1 12) (v2).toNatClampNeg (v4).toNatClampNeg (v5).toNatClampNeg)) fun s26 =>
some (v5, s26))
(gd (acp v2 v4 v5 40 40) <|
nm (sA s0 13 (va_cpy (s0.2.1 11) (s0.2.1 13) (v2).toNatClampNeg (v4).toNatClampNeg (v5).toNatClampNeg)) fun s29 =>
some (v5, s29)))
(row3 v3 (
gd (acp v2 v4 v5 40 40) <|
nm (sA s0 11 (va_cpy (s0.2.1 12) (s0.2.1 11) (v2).toNatClampNeg (v4).toNatClampNeg (v5).toNatClampNeg)) fun s33 =>
some (v5, s33))
(gd (acp v2 v4 v5 40 40) <|
nm (sA s0 12 (va_cpy (s0.2.1 12) (s0.2.1 12) (v2).toNatClampNeg (v4).toNatClampNeg (v5).toNatClampNeg)) fun s36 =>
some (v5, s36))
(gd (acp v2 v4 v5 40 40) <|
nm (sA s0 13 (va_cpy (s0.2.1 12) (s0.2.1 13) (v2).toNatClampNeg (v4).toNatClampNeg (v5).toNatClampNeg)) fun s39 =>
some (v5, s39)))
(row3 v3 (
gd (acp v2 v4 v5 40 40) <|
nm (sA s0 11 (va_cpy (s0.2.1 13) (s0.2.1 11) (v2).toNatClampNeg (v4).toNatClampNeg (v5).toNatClampNeg)) fun s43 =>
some (v5, s43))
(gd (acp v2 v4 v5 40 40) <|
nm (sA s0 12 (va_cpy (s0.2.1 13) (s0.2.1 12) (v2).toNatClampNeg (v4).toNatClampNeg (v5).toNatClampNeg)) fun s46 =>
some (v5, s46))
(gd (acp v2 v4 v5 40 40) <|
nm (sA s0 13 (va_cpy (s0.2.1 13) (s0.2.1 13) (v2).toNatClampNeg (v4).toNatClampNeg (v5).toNatClampNeg)) fun s49 =>
some (v5, s49))))
else (
some ((-13 : Int32), s0))))
else (
some ((-13 : Int32), s0))))))))
def X6_film_L1_b (v6 : Int32) (v1 : Int32) (v2 : Int32) (v3 : Int32) (rec : Int32 → ST → Option (ST)) (v7 : Int32) (s0 : ST) : Option (ST) :=
if v6 ≤ v7 then (
some s0)
else (
row3 v1 (
bd (X2_of s0 v2 (v3 + v7)) fun r21 =>
gd (inb v7 40) <|
nm (sA s0 11 (upd (s0.2.1 11) (v7).toNatClampNeg r21)) fun s23 =>
nm (v7 + (1 : Int32)) fun v7_25 =>
rec v7_25 s23)
(bd (X2_of s0 v2 (v3 + v7)) fun r28 =>
gd (inb v7 40) <|
nm (sA s0 12 (upd (s0.2.1 12) (v7).toNatClampNeg r28)) fun s30 =>
nm (v7 + (1 : Int32)) fun v7_32 =>
rec v7_32 s30)
(bd (X2_of s0 v2 (v3 + v7)) fun r35 =>
gd (inb v7 40) <|
nm (sA s0 13 (upd (s0.2.1 13) (v7).toNatClampNeg r35)) fun s37 =>
nm (v7 + (1 : Int32)) fun v7_39 =>
rec v7_39 s37))
def X6_film_L1 (v6 : Int32) (v1 : Int32) (v2 : Int32) (v3 : Int32) : Nat → Int32 → ST → Option (ST)
  | 0 => fun _ _ => none
  | k + 1 => X6_film_L1_b v6 v1 v2 v3 (X6_film_L1 v6 v1 v2 v3 k)
def X6_film (n : Nat) (s0 : ST) (v1 : Int32) (v2 : Int32) (v3 : Int32) (v4 : Int32) : Option (Int32 × ST) :=
bd (X6_isRow v1) fun r1 =>
if r1 = 0 then (
some ((-1 : Int32), s0))
else (
bd (X6_isSide v2) fun r4 =>
if r4 = 0 then (
some ((-1 : Int32), s0))
else (
bd (X4_isSet s0 v3) fun r8 =>
if r8 = 0 then (
some ((-2 : Int32), s0))
else (
if v4 < 0 then (
some ((-2 : Int32), s0))
else (
if v4 ≤ (40 : Int32) then (
bd (X6_freshRanks n s0) fun s13 =>
bd (X4_all s13) fun r15 =>
nm (if ((r15 - v3) + (1 : Int32)) < v4 then ((r15 - v3) + (1 : Int32)) else v4) fun r16 =>
bd (X6_film_L1 r16 v1 v2 v3 n (0 : Int32) s13) fun e41 =>
gd (inb v1 3) <|
nm (sA e41 14 (upd (e41.2.1 14) (v1).toNatClampNeg r16)) fun s44 =>
some (r16, s44))
else (
some ((-2 : Int32), s0))))))
def X6_judge_L1_b (s0 : ST) (v1 : Int32) (v2 : Int32) (v3 : Int32) (rec : Int32 → Option ((Int32 × ST) ⊕ (Unit))) (v5 : Int32) : Option ((Int32 × ST) ⊕ (Unit)) :=
gd (inb v1 3) <|
if (s0.2.1 14 (v1).toNatClampNeg) ≤ v5 then (
some (Sum.inr ()))
else (
bd (X4_isSet s0 (v3 + v5)) fun r18 =>
if r18 = 0 then (
some (Sum.inl (v5, s0)))
else (
row3 v1 (
gd (inb v5 40) <|
bd (X2_of s0 v2 (v3 + v5)) fun r23 =>
if (s0.2.1 11 (v5).toNatClampNeg) = r23 then (
nm (v5 + (1 : Int32)) fun v5_25 =>
rec v5_25)
else (
some (Sum.inl (v5, s0))))
(gd (inb v5 40) <|
bd (X2_of s0 v2 (v3 + v5)) fun r29 =>
if (s0.2.1 12 (v5).toNatClampNeg) = r29 then (
nm (v5 + (1 : Int32)) fun v5_31 =>
rec v5_31)
else (
some (Sum.inl (v5, s0))))
(gd (inb v5 40) <|
bd (X2_of s0 v2 (v3 + v5)) fun r35 =>
if (s0.2.1 13 (v5).toNatClampNeg) = r35 then (
nm (v5 + (1 : Int32)) fun v5_37 =>
rec v5_37)
else (
some (Sum.inl (v5, s0))))))
def X6_judge_L1 (s0 : ST) (v1 : Int32) (v2 : Int32) (v3 : Int32) : Nat → Int32 → Option ((Int32 × ST) ⊕ (Unit))
  | 0 => fun _ => none
  | k + 1 => X6_judge_L1_b s0 v1 v2 v3 (X6_judge_L1 s0 v1 v2 v3 k)
def X6_judge (n : Nat) (s0 : ST) (v1 : Int32) (v2 : Int32) (v3 : Int32) : Option (Int32 × ST) :=
bd (X6_isRow v1) fun r1 =>
if r1 = 0 then (
some ((-1 : Int32), s0))
else (
bd (X6_isSide v2) fun r4 =>
if r4 = 0 then (
some ((-1 : Int32), s0))
else (
bd (X4_isSet s0 v3) fun r8 =>
if r8 = 0 then (
some ((-2 : Int32), s0))
else (
bd (X6_isThere s0 v1) fun r11 =>
if r11 = 0 then (
some ((-11 : Int32), s0))
else (
bd (X6_freshRanks n s0) fun s14 =>
bd (X6_judge_L1 s14 v1 v2 v3 n (0 : Int32)) fun e39 =>
sm e39 (fun rv => some rv) fun e41 =>
gd (inb v1 3) <|
some (((100 : Int32) + (s14.2.1 14 (v1).toNatClampNeg)), s14)))))
def X6_feed (s0 : ST) (v1 : Int32) : Option (Int32 × ST) :=
if v1 < (32 : Int32) then (
some ((-2 : Int32), s0))
else (
if v1 ≤ (126 : Int32) then (
if (s0.1 11) < (120 : Int32) then (
gd (inb (s0.1 11) 120) <|
gd (cz ((v1).toUInt32 % 65536).toInt32) <|
nm (sA s0 15 (upd (s0.2.1 15) ((s0.1 11)).toNatClampNeg ((v1).toUInt32 % 65536).toInt32)) fun s5 =>
nm (sI s5 11 ((s5.1 11) + (1 : Int32))) fun s8 =>
some ((s8.1 11), s8))
else (
some ((-4 : Int32), s0)))
else (
some ((-2 : Int32), s0)))
def X6_wipe (s0 : ST)  : Option (Int32 × ST) :=
nm (s0.1 11) fun v1_1 =>
nm (sI s0 11 (0 : Int32)) fun s3 =>
some (v1_1, s3)
def X5_rewind (s0 : ST)  : Option (ST) :=
nm (sI s0 16 (0 : Int32)) fun s1 =>
nm (sI s1 17 (-1 : Int32)) fun s3 =>
some s3
def X5_isWord_L1_b (s0 : ST) (v1 : Nat) (v2 : Int32) (rec : Int32 → Option ((Int32) ⊕ (Unit))) (v3 : Int32) : Option ((Int32) ⊕ (Unit)) :=
bd (txlen v1) fun r4 =>
if r4 ≤ v3 then (
some (Sum.inr ()))
else (
gd (inb (v2 + v3) 120) <|
bd (txat v1 v3) fun r8 =>
if (s0.2.1 15 ((v2 + v3)).toNatClampNeg) = r8 then (
nm (v3 + (1 : Int32)) fun v3_11 =>
rec v3_11)
else (
some (Sum.inl (0 : Int32))))
def X5_isWord_L1 (s0 : ST) (v1 : Nat) (v2 : Int32) : Nat → Int32 → Option ((Int32) ⊕ (Unit))
  | 0 => fun _ => none
  | k + 1 => X5_isWord_L1_b s0 v1 v2 (X5_isWord_L1 s0 v1 v2 k)
def X5_isWord (n : Nat) (s0 : ST) (v1 : Nat) (v2 : Int32) : Option (Int32) :=
bd (txlen v1) fun r1 =>
if ((s0.1 16) - v2) = r1 then (
bd (X5_isWord_L1 s0 v1 v2 n (0 : Int32)) fun e13 =>
sm e13 (fun rv => some rv) fun e15 =>
some (1 : Int32))
else (
some (0 : Int32))
def X5_wordFrom (n : Nat) (s0 : ST) (v1 : Int32) : Option (Int32) :=
bd (X5_isWord n s0 0 v1) fun r2 =>
if r2 = 0 then (
bd (X5_isWord n s0 1 v1) fun r5 =>
if r5 = 0 then (
bd (X5_isWord n s0 2 v1) fun r8 =>
if r8 = 0 then (
bd (X5_isWord n s0 3 v1) fun r11 =>
if r11 = 0 then (
bd (X5_isWord n s0 4 v1) fun r14 =>
if r14 = 0 then (
bd (X5_isWord n s0 5 v1) fun r17 =>
if r17 = 0 then (
some (0 : Int32))
else (
some (6 : Int32)))
else (
some (5 : Int32)))
else (
some (4 : Int32)))
else (
some (3 : Int32)))
else (
some (2 : Int32)))
else (
some (1 : Int32))
def X5_isFigure (s0 : ST)  : Option (Int32) :=
if (s0.1 11) ≤ (s0.1 16) then (
some (0 : Int32))
else (
gd (inb (s0.1 16) 120) <|
if (s0.2.1 15 ((s0.1 16)).toNatClampNeg) < (48 : Int32) then (
some (0 : Int32))
else (
gd (inb (s0.1 16) 120) <|
if (57 : Int32) < (s0.2.1 15 ((s0.1 16)).toNatClampNeg) then (
some (0 : Int32))
else (
some (1 : Int32))))
def X5_takeNumber_L1_b (v1 : Int32) (rec : Int32 → Int32 → ST → Option (Int32 × ST)) (v3 : Int32) (v2 : Int32) (s0 : ST) : Option (Int32 × ST) :=
if v1 ≤ v3 then (
some (v2, s0))
else (
bd (X5_isFigure s0) fun r14 =>
if r14 = 0 then (
some (v2, s0))
else (
gd (inb (s0.1 16) 120) <|
nm (((v2 * (10 : Int32)) + (s0.2.1 15 ((s0.1 16)).toNatClampNeg)) - (48 : Int32)) fun v2_17 =>
nm (sI s0 16 ((s0.1 16) + (1 : Int32))) fun s19 =>
nm (v3 + (1 : Int32)) fun v3_21 =>
rec v3_21 v2_17 s19))
def X5_takeNumber_L1 (v1 : Int32) : Nat → Int32 → Int32 → ST → Option (Int32 × ST)
  | 0 => fun _ _ _ => none
  | k + 1 => X5_takeNumber_L1_b v1 (X5_takeNumber_L1 v1 k)
def X5_takeNumber (n : Nat) (s0 : ST) (v1 : Int32) : Option (Int32 × ST) :=
if (s0.1 17) = (-1 : Int32) then (
if (s0.1 11) ≤ (s0.1 16) then (
nm (sI s0 17 (s0.1 16)) fun s3 =>
some ((0 : Int32), s3))
else (
gd (inb (s0.1 16) 120) <|
if (s0.2.1 15 ((s0.1 16)).toNatClampNeg) = (32 : Int32) then (
nm (sI s0 16 ((s0.1 16) + (1 : Int32))) fun s7 =>
bd (X5_isFigure s7) fun r10 =>
if r10 = 0 then (
nm (sI s7 17 (s7.1 16)) fun s25 =>
some ((0 : Int32), s25))
else (
bd (X5_takeNumber_L1 v1 n (0 : Int32) (0 : Int32) s7) fun e23 =>
some (e23.1, e23.2)))
else (
nm (sI s0 17 (s0.1 16)) fun s27 =>
some ((0 : Int32), s27))))
else (
some ((0 : Int32), s0))
def X5_takePosts_L1_b (n : Nat)  (rec : Int32 → ST → Option ((ST) ⊕ (ST))) (v1 : Int32) (s0 : ST) : Option ((ST) ⊕ (ST)) :=
if (s0.1 11) ≤ v1 then (
some (Sum.inr s0))
else (
if (s0.1 17) = (-1 : Int32) then (
if (s0.1 11) ≤ (s0.1 16) then (
some (Sum.inl s0))
else (
gd (inb (s0.1 16) 120) <|
if (s0.2.1 15 ((s0.1 16)).toNatClampNeg) = (32 : Int32) then (
bd2 (X5_takeNumber n s0 (1 : Int32)) fun r8 s7 =>
nm (sI s7 15 ((s0.1 15) ||| ((1 : Int32) <<< (r8 &&& 31)))) fun s9 =>
nm (v1 + (1 : Int32)) fun v1_11 =>
rec v1_11 s9)
else (
some (Sum.inl s0))))
else (
some (Sum.inl s0)))
def X5_takePosts_L1 (n : Nat)  : Nat → Int32 → ST → Option ((ST) ⊕ (ST))
  | 0 => fun _ _ => none
  | k + 1 => X5_takePosts_L1_b n (X5_takePosts_L1 n k)
def X5_takePosts (n : Nat) (s0 : ST)  : Option (ST) :=
bd (X5_takePosts_L1 n n (0 : Int32) s0) fun e13 =>
sm e13 (fun rv => some rv) fun e15 =>
some e15
def X5_takeStatement_L1_b  (rec : ST → Option (ST)) (s0 : ST) : Option (ST) :=
if (s0.1 11) ≤ (s0.1 16) then (
some s0)
else (
gd (inb (s0.1 16) 120) <|
if (s0.2.1 15 ((s0.1 16)).toNatClampNeg) < (97 : Int32) then (
some s0)
else (
gd (inb (s0.1 16) 120) <|
if (122 : Int32) < (s0.2.1 15 ((s0.1 16)).toNatClampNeg) then (
some s0)
else (
nm (sI s0 16 ((s0.1 16) + (1 : Int32))) fun s8 =>
rec s8)))
def X5_takeStatement_L1  : Nat → ST → Option (ST)
  | 0 => fun _ => none
  | k + 1 => X5_takeStatement_L1_b  (X5_takeStatement_L1  k)
def X5_takeStatement (n : Nat) (s0 : ST)  : Option (ST) :=
nm (s0.1 16) fun v1_1 =>
bd (X5_takeStatement_L1 n s0) fun e10 =>
bd (X5_wordFrom n e10 v1_1) fun r13 =>
nm (sI e10 12 r13) fun s14 =>
nm (sI s14 13 (0 : Int32)) fun s16 =>
nm (sI s16 14 (0 : Int32)) fun s18 =>
nm (sI s18 15 (0 : Int32)) fun s20 =>
if (s20.1 12) = (0 : Int32) then (
nm (sI s20 17 v1_1) fun s23 =>
some s23)
else (
if (s20.1 12) = (5 : Int32) then (
bd (X5_takePosts n s20) fun s27 =>
some s27)
else (
bd2 (X5_takeNumber n s20 (1 : Int32)) fun r30 s29 =>
nm (sI s29 13 r30) fun s31 =>
if (s31.1 12) = (2 : Int32) then (
bd2 (X5_takeNumber n s31 (1 : Int32)) fun r36 s35 =>
nm (sI s35 14 r36) fun s37 =>
if (s37.1 12) = (6 : Int32) then (
bd2 (X5_takeNumber n s37 (2 : Int32)) fun r42 s41 =>
nm (sI s41 14 r42) fun s43 =>
some s43)
else (
some s37))
else (
if (s31.1 12) = (3 : Int32) then (
bd2 (X5_takeNumber n s31 (1 : Int32)) fun r54 s53 =>
nm (sI s53 14 r54) fun s55 =>
if (s55.1 12) = (6 : Int32) then (
bd2 (X5_takeNumber n s55 (2 : Int32)) fun r60 s59 =>
nm (sI s59 14 r60) fun s61 =>
some s61)
else (
some s55))
else (
if (s31.1 12) = (6 : Int32) then (
bd2 (X5_takeNumber n s31 (2 : Int32)) fun r49 s48 =>
nm (sI s48 14 r49) fun s50 =>
some s50)
else (
some s31)))))
def X5_takeSemicolon (s0 : ST)  : Option (Int32 × ST) :=
if (s0.1 16) < (s0.1 11) then (
gd (inb (s0.1 16) 120) <|
if (s0.2.1 15 ((s0.1 16)).toNatClampNeg) = (59 : Int32) then (
nm (sI s0 16 ((s0.1 16) + (1 : Int32))) fun s4 =>
some ((1 : Int32), s4))
else (
nm (sI s0 17 (s0.1 16)) fun s6 =>
some ((0 : Int32), s6)))
else (
some ((0 : Int32), s0))
def X5_findFault_L1_b (n : Nat)  (rec : Int32 → Int32 → ST → Option (ST)) (v2 : Int32) (v1 : Int32) (s0 : ST) : Option (ST) :=
if v1 = 0 then (
some s0)
else (
if (s0.1 11) < v2 then (
some s0)
else (
bd (X5_takeStatement n s0) fun s6 =>
if (s6.1 17) = (-1 : Int32) then (
bd2 (X5_takeSemicolon s6) fun r12 s11 =>
if r12 = 0 then (
nm (v2 + (1 : Int32)) fun v2_14 =>
rec v2_14 (0 : Int32) s11)
else (
nm (v2 + (1 : Int32)) fun v2_16 =>
rec v2_16 (1 : Int32) s11))
else (
nm (v2 + (1 : Int32)) fun v2_8 =>
rec v2_8 (0 : Int32) s6)))
def X5_findFault_L1 (n : Nat)  : Nat → Int32 → Int32 → ST → Option (ST)
  | 0 => fun _ _ _ => none
  | k + 1 => X5_findFault_L1_b n (X5_findFault_L1 n k)
def X5_findFault (n : Nat) (s0 : ST)  : Option (Int32 × ST) :=
bd (X5_rewind s0) fun s2 =>
bd (X5_findFault_L1 n n (0 : Int32) (1 : Int32) s2) fun e18 =>
some ((e18.1 17), e18)
def X6_isDone (n : Nat) (s0 : ST)  : Option (Int32 × ST) :=
if (s0.1 12) = (1 : Int32) then (
bd2 (X6_posts n s0 (s0.1 13)) fun r4 s3 =>
if r4 < 0 then (
some ((0 : Int32), s3))
else (
some ((1 : Int32), s3)))
else (
if (s0.1 12) = (2 : Int32) then (
bd2 (X6_road s0 (s0.1 13) (s0.1 14) (1 : Int32)) fun r9 s8 =>
if r9 < 0 then (
some ((0 : Int32), s8))
else (
some ((1 : Int32), s8)))
else (
if (s0.1 12) = (3 : Int32) then (
bd2 (X6_road s0 (s0.1 13) (s0.1 14) (0 : Int32)) fun r14 s13 =>
if r14 < 0 then (
some ((0 : Int32), s13))
else (
some ((1 : Int32), s13)))
else (
if (s0.1 12) = (4 : Int32) then (
bd (X4_isPost s0 (s0.1 13)) fun r18 =>
if r18 = 0 then (
some ((0 : Int32), s0))
else (
bd2 (X6_targets s0 ((s0.1 2) ||| ((1 : Int32) <<< ((s0.1 13) &&& 31)))) fun r22 s21 =>
if r22 < 0 then (
some ((0 : Int32), s21))
else (
some ((1 : Int32), s21))))
else (
if (s0.1 12) = (5 : Int32) then (
bd2 (X6_add s0 (s0.1 15)) fun r27 s26 =>
if r27 < 0 then (
some ((0 : Int32), s26))
else (
some ((1 : Int32), s26)))
else (
if (s0.1 12) = (6 : Int32) then (
bd2 (X6_weigh s0 (s0.1 13) (s0.1 14)) fun r32 s31 =>
if r32 < 0 then (
some ((0 : Int32), s31))
else (
some ((1 : Int32), s31)))
else (
some ((0 : Int32), s0)))))))
def X6_doStatements_L1_b (n : Nat)  (rec : Int32 → Int32 → Int32 → ST → Option ((Int32 × ST) ⊕ (Int32 × ST))) (v3 : Int32) (v2 : Int32) (v1 : Int32) (s0 : ST) : Option ((Int32 × ST) ⊕ (Int32 × ST)) :=
if v2 = 0 then (
some (Sum.inr (v1, s0)))
else (
if (s0.1 11) < v3 then (
some (Sum.inr (v1, s0)))
else (
bd (X5_takeStatement n s0) fun s6 =>
bd2 (X6_isDone n s6) fun r9 s8 =>
if r9 = 0 then (
some (Sum.inl (((-300 : Int32) - v1), s8)))
else (
nm (v1 + (1 : Int32)) fun v1_11 =>
bd2 (X5_takeSemicolon s8) fun r15 s14 =>
nm (v3 + (1 : Int32)) fun v3_16 =>
rec v3_16 r15 v1_11 s14)))
def X6_doStatements_L1 (n : Nat)  : Nat → Int32 → Int32 → Int32 → ST → Option ((Int32 × ST) ⊕ (Int32 × ST))
  | 0 => fun _ _ _ _ => none
  | k + 1 => X6_doStatements_L1_b n (X6_doStatements_L1 n k)
def X6_doStatements (n : Nat) (s0 : ST)  : Option (Int32 × ST) :=
bd (X5_rewind s0) fun s2 =>
bd (X6_doStatements_L1 n n (0 : Int32) (1 : Int32) (0 : Int32) s2) fun e18 =>
sm e18 (fun rv => some rv) fun e20 =>
some (e20.1, e20.2)
def X6_read (n : Nat) (s0 : ST)  : Option (Int32 × ST) :=
bd2 (X5_findFault n s0) fun r3 s2 =>
if r3 = (-1 : Int32) then (
bd2 (X6_doStatements n s2) fun r11 s10 =>
nm (sI s10 11 (0 : Int32)) fun s12 =>
some (r11, s12))
else (
nm ((-100 : Int32) - r3) fun v2_5 =>
nm (sI s2 11 (0 : Int32)) fun s7 =>
some (v2_5, s7))
def X3_writeSign (s0 : ST) (v1 : Int32) : Option (ST) :=
if (s0.1 18) < (800 : Int32) then (
gd (inb (s0.1 18) 800) <|
gd (cz v1) <|
nm (sA s0 16 (upd (s0.2.1 16) ((s0.1 18)).toNatClampNeg v1)) fun s3 =>
nm (sI s3 18 ((s3.1 18) + (1 : Int32))) fun s6 =>
some s6)
else (
some s0)
def X3_write_L1_b (v1 : Nat) (rec : Int32 → ST → Option (ST)) (v2 : Int32) (s0 : ST) : Option (ST) :=
bd (txlen v1) fun r1 =>
if r1 ≤ v2 then (
some s0)
else (
bd (txat v1 v2) fun r4 =>
bd (X3_writeSign s0 r4) fun s7 =>
nm (v2 + (1 : Int32)) fun v2_8 =>
rec v2_8 s7)
def X3_write_L1 (v1 : Nat) : Nat → Int32 → ST → Option (ST)
  | 0 => fun _ _ => none
  | k + 1 => X3_write_L1_b v1 (X3_write_L1 v1 k)
def X3_write (n : Nat) (s0 : ST) (v1 : Nat) : Option (ST) :=
bd (X3_write_L1 v1 n (0 : Int32) s0) fun e10 =>
some e10
def X3_writeNumber (s0 : ST) (v1 : Int32) : Option (ST) :=
bd (X3_writeSign s0 (32 : Int32)) fun s2 =>
if v1 < (10 : Int32) then (
bd (X3_writeSign s2 ((((48 : Int32) + (v1 - v1 / (10 : Int32) * (10 : Int32)))).toUInt32 % 65536).toInt32) fun s5 =>
some s5)
else (
bd (X3_writeSign s2 ((((48 : Int32) + (v1 / (10 : Int32)))).toUInt32 % 65536).toInt32) fun s7 =>
bd (X3_writeSign s7 ((((48 : Int32) + (v1 - v1 / (10 : Int32) * (10 : Int32)))).toUInt32 % 65536).toInt32) fun s9 =>
some s9)
def X3_writeRoads_a1_L2_b (n : Nat) (v2 : Int32) (rec : Int32 → ST → Option (ST)) (v3 : Int32) (s0 : ST) : Option (ST) :=
if (s0.1 1) ≤ v3 then (
some s0)
else (
gd (inb v2 8) <|
bd (X6_has (s0.2.1 0 (v2).toNatClampNeg) v3) fun r4 =>
if r4 = 0 then (
nm (v3 + (1 : Int32)) fun v3_15 =>
rec v3_15 s0)
else (
bd (X3_write n s0 6) fun s8 =>
bd (X3_writeNumber s8 v2) fun s10 =>
bd (X3_writeNumber s10 v3) fun s12 =>
nm (v3 + (1 : Int32)) fun v3_13 =>
rec v3_13 s12))
def X3_writeRoads_a1_L2 (n : Nat) (v2 : Int32) : Nat → Int32 → ST → Option (ST)
  | 0 => fun _ _ => none
  | k + 1 => X3_writeRoads_a1_L2_b n v2 (X3_writeRoads_a1_L2 n v2 k)
def X3_writeRoads_a1_L1_b (n : Nat)  (rec : Int32 → ST → Option (ST)) (v2 : Int32) (s0 : ST) : Option (ST) :=
if (s0.1 1) ≤ v2 then (
some s0)
else (
bd (X3_writeRoads_a1_L2 n v2 n (0 : Int32) s0) fun e17 =>
nm (v2 + (1 : Int32)) fun v2_19 =>
rec v2_19 e17)
def X3_writeRoads_a1_L1 (n : Nat)  : Nat → Int32 → ST → Option (ST)
  | 0 => fun _ _ => none
  | k + 1 => X3_writeRoads_a1_L1_b n (X3_writeRoads_a1_L1 n k)
def X3_writeRoads_a1 (n : Nat) (s0 : ST)  : Option (ST) :=
bd (X3_writeRoads_a1_L1 n n (0 : Int32) s0) fun e21 =>
some e21
def X3_writePostsOf_L1_b (n : Nat) (v1 : Nat) (v2 : Int32) (rec : Int32 → ST → Option (ST)) (v3 : Int32) (s0 : ST) : Option (ST) :=
if (8 : Int32) ≤ v3 then (
some s0)
else (
bd (X6_has v2 v3) fun r2 =>
if r2 = 0 then (
nm (v3 + (1 : Int32)) fun v3_13 =>
rec v3_13 s0)
else (
bd (X3_write n s0 7) fun s6 =>
bd (X3_write n s6 v1) fun s8 =>
bd (X3_writeNumber s8 v3) fun s10 =>
nm (v3 + (1 : Int32)) fun v3_11 =>
rec v3_11 s10))
def X3_writePostsOf_L1 (n : Nat) (v1 : Nat) (v2 : Int32) : Nat → Int32 → ST → Option (ST)
  | 0 => fun _ _ => none
  | k + 1 => X3_writePostsOf_L1_b n v1 v2 (X3_writePostsOf_L1 n v1 v2 k)
def X3_writePostsOf (n : Nat) (s0 : ST) (v1 : Nat) (v2 : Int32) : Option (ST) :=
bd (X3_writePostsOf_L1 n v1 v2 n (0 : Int32) s0) fun e15 =>
some e15
def X3_writeSet_L1_b (v1 : Int32) (rec : Int32 → ST → Option (ST)) (v2 : Int32) (s0 : ST) : Option (ST) :=
if (8 : Int32) ≤ v2 then (
some s0)
else (
bd (X6_has v1 v2) fun r4 =>
if r4 = 0 then (
nm (v2 + (1 : Int32)) fun v2_7 =>
rec v2_7 s0)
else (
bd (X3_writeNumber s0 v2) fun s10 =>
nm (v2 + (1 : Int32)) fun v2_11 =>
rec v2_11 s10))
def X3_writeSet_L1 (v1 : Int32) : Nat → Int32 → ST → Option (ST)
  | 0 => fun _ _ => none
  | k + 1 => X3_writeSet_L1_b v1 (X3_writeSet_L1 v1 k)
def X3_writeSet (n : Nat) (s0 : ST) (v1 : Int32) : Option (ST) :=
bd (X3_write n s0 8) fun s2 =>
bd (X3_writeSet_L1 v1 n (0 : Int32) s2) fun e13 =>
some e13
def X3_writeWeights_a1_L1_b (n : Nat)  (rec : Int32 → ST → Option (ST)) (v2 : Int32) (s0 : ST) : Option (ST) :=
if (s0.1 1) ≤ v2 then (
some s0)
else (
gd (inb v2 8) <|
if (s0.2.1 1 (v2).toNatClampNeg) = 0 then (
nm (v2 + (1 : Int32)) fun v2_13 =>
rec v2_13 s0)
else (
bd (X3_write n s0 9) fun s5 =>
bd (X3_writeNumber s5 v2) fun s7 =>
gd (inb v2 8) <|
bd (X3_writeNumber s7 (s7.2.1 1 (v2).toNatClampNeg)) fun s10 =>
nm (v2 + (1 : Int32)) fun v2_11 =>
rec v2_11 s10))
def X3_writeWeights_a1_L1 (n : Nat)  : Nat → Int32 → ST → Option (ST)
  | 0 => fun _ _ => none
  | k + 1 => X3_writeWeights_a1_L1_b n (X3_writeWeights_a1_L1 n k)
def X3_writeWeights_a1 (n : Nat) (s0 : ST)  : Option (ST) :=
bd (X3_writeWeights_a1_L1 n n (0 : Int32) s0) fun e15 =>
some e15
def X3_spell_a1_L1_b (n : Nat)  (rec : Int32 → ST → Option (ST)) (v2 : Int32) (s0 : ST) : Option (ST) :=
if (s0.1 3) ≤ v2 then (
some s0)
else (
gd (inb v2 8) <|
bd (X3_writeSet n s0 (s0.2.1 2 (v2).toNatClampNeg)) fun s15 =>
nm (v2 + (1 : Int32)) fun v2_16 =>
rec v2_16 s15)
def X3_spell_a1_L1 (n : Nat)  : Nat → Int32 → ST → Option (ST)
  | 0 => fun _ _ => none
  | k + 1 => X3_spell_a1_L1_b n (X3_spell_a1_L1 n k)
def X3_spell_a1 (n : Nat) (s0 : ST)  : Option (ST) :=
if (s0.1 19) = (s0.1 4) then (
some s0)
else (
nm (sI s0 18 (0 : Int32)) fun s2 =>
bd (X3_write n s2 0) fun s5 =>
bd (X3_writeNumber s5 (s5.1 1)) fun s7 =>
bd (X3_writeRoads_a1 n s7) fun s9 =>
bd (X3_writePostsOf n s9 3 (s9.1 2)) fun s11 =>
bd (X3_spell_a1_L1 n n (0 : Int32) s11) fun e18 =>
bd (X3_writeWeights_a1 n e18) fun s21 =>
nm (sI s21 19 (s21.1 4)) fun s22 =>
some s22)
def X6_spelled (n : Nat) (s0 : ST) (v1 : Int32) : Option (Int32 × ST) :=
bd (X3_spell_a1 n s0) fun s2 =>
if v1 = (-1 : Int32) then (
some ((s2.1 18), s2))
else (
if v1 < 0 then (
some ((-1 : Int32), s2))
else (
if v1 < (s2.1 18) then (
gd (inb v1 800) <|
some ((s2.2.1 16 (v1).toNatClampNeg), s2))
else (
some ((-1 : Int32), s2))))
def X4_become_5_a1 (s0 : ST)  : Option (ST) :=
nm (sI s0 5 (s0.1 1)) fun s1 =>
nm (sI s1 6 (s1.1 2)) fun s3 =>
nm (sI s3 7 (s3.1 3)) fun s5 =>
gd (acp (0 : Int32) (0 : Int32) (8 : Int32) 8 8) <|
nm (sA s5 3 (va_cpy (s5.2.1 0) (s5.2.1 3) ((0 : Int32)).toNatClampNeg ((0 : Int32)).toNatClampNeg ((8 : Int32)).toNatClampNeg)) fun s8 =>
gd (acp (0 : Int32) (0 : Int32) (8 : Int32) 8 8) <|
nm (sA s8 4 (va_cpy (s8.2.1 1) (s8.2.1 4) ((0 : Int32)).toNatClampNeg ((0 : Int32)).toNatClampNeg ((8 : Int32)).toNatClampNeg)) fun s11 =>
gd (acp (0 : Int32) (0 : Int32) (8 : Int32) 8 8) <|
nm (sA s11 5 (va_cpy (s11.2.1 2) (s11.2.1 5) ((0 : Int32)).toNatClampNeg ((0 : Int32)).toNatClampNeg ((8 : Int32)).toNatClampNeg)) fun s14 =>
nm (sI s14 8 ((s14.1 8) + (1 : Int32))) fun s16 =>
some s16
def X6_image (s0 : ST)  : Option (Int32 × ST) :=
bd (X4_become_5_a1 s0) fun s2 =>
nm (sI s2 0 (1 : Int32)) fun s3 =>
some ((s3.1 1), s3)
def X4_become_a5 (s0 : ST)  : Option (ST) :=
nm (sI s0 1 (s0.1 5)) fun s1 =>
nm (sI s1 2 (s1.1 6)) fun s3 =>
nm (sI s3 3 (s3.1 7)) fun s5 =>
gd (acp (0 : Int32) (0 : Int32) (8 : Int32) 8 8) <|
nm (sA s5 0 (va_cpy (s5.2.1 3) (s5.2.1 0) ((0 : Int32)).toNatClampNeg ((0 : Int32)).toNatClampNeg ((8 : Int32)).toNatClampNeg)) fun s8 =>
gd (acp (0 : Int32) (0 : Int32) (8 : Int32) 8 8) <|
nm (sA s8 1 (va_cpy (s8.2.1 4) (s8.2.1 1) ((0 : Int32)).toNatClampNeg ((0 : Int32)).toNatClampNeg ((8 : Int32)).toNatClampNeg)) fun s11 =>
gd (acp (0 : Int32) (0 : Int32) (8 : Int32) 8 8) <|
nm (sA s11 2 (va_cpy (s11.2.1 5) (s11.2.1 2) ((0 : Int32)).toNatClampNeg ((0 : Int32)).toNatClampNeg ((8 : Int32)).toNatClampNeg)) fun s14 =>
nm (sI s14 4 ((s14.1 4) + (1 : Int32))) fun s16 =>
some s16
def X6_undo (s0 : ST)  : Option (Int32 × ST) :=
if (s0.1 0) = 0 then (
some ((-3 : Int32), s0))
else (
bd (X4_become_a5 s0) fun s3 =>
some ((s3.1 1), s3))
def X6_countRows_L1_b (s0 : ST)  (rec : Int32 → Int32 → Option (Int32)) (v2 : Int32) (v1 : Int32) : Option (Int32) :=
if (3 : Int32) ≤ v2 then (
some v1)
else (
bd (X6_isThere s0 v2) fun r3 =>
if r3 = 0 then (
nm (v2 + (1 : Int32)) fun v2_5 =>
rec v2_5 v1)
else (
nm (v1 + (1 : Int32)) fun v1_7 =>
nm (v2 + (1 : Int32)) fun v2_9 =>
rec v2_9 v1_7))
def X6_countRows_L1 (s0 : ST)  : Nat → Int32 → Int32 → Option (Int32)
  | 0 => fun _ _ => none
  | k + 1 => X6_countRows_L1_b s0 (X6_countRows_L1 s0 k)
def X6_countRows (n : Nat) (s0 : ST)  : Option (Int32) :=
bd (X6_countRows_L1 s0 n (0 : Int32) (0 : Int32)) fun e11 =>
some e11
def X6_count (n : Nat) (s0 : ST) (v1 : Int32) : Option (Int32) :=
if v1 = (0 : Int32) then (
some (s0.1 1))
else (
if v1 = (1 : Int32) then (
bd (X4_countRoads n s0) fun r4 =>
some r4)
else (
if v1 = (2 : Int32) then (
some (s0.1 2))
else (
if v1 = (3 : Int32) then (
some (s0.1 3))
else (
if v1 = (4 : Int32) then (
some (s0.1 11))
else (
if v1 = (5 : Int32) then (
bd (X6_countRows n s0) fun r10 =>
some r10)
else (
if v1 = (6 : Int32) then (
bd (X4_all s0) fun r13 =>
bd (X4_weightOf n s0 r13) fun r15 =>
some r15)
else (
some (-1 : Int32))))))))
