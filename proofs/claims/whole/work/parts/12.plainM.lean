/-! PLAIN FUNCTIONS (M), laid by program out of the bytecode: each says what its method answers and leaves; none: a place that is out of bounds, or no end within n turns -/
def X7_in (v0 : Int32) (v1 : Int32) (v2 : Int32) : Option (Int32) :=
if v0 < v1 then (
some (0 : Int32))
else (
if v2 < v0 then (
some (0 : Int32))
else (
some (1 : Int32)))
def X7_begins_L1_b  (rec : Int32 → ST → Option (ST)) (v2 : Int32) (s0 : ST) : Option (ST) :=
if (8 : Int32) ≤ v2 then (
some s0)
else (
gd (inb v2 8) <|
nm (sA s0 0 (upd (s0.2.1 0) (v2).toNatClampNeg (0 : Int32))) fun s9 =>
gd (inb v2 8) <|
nm (sA s9 1 (upd (s9.2.1 1) (v2).toNatClampNeg (0 : Int32))) fun s12 =>
nm (v2 + (1 : Int32)) fun v2_14 =>
rec v2_14 s12)
def X7_begins_L1  : Nat → Int32 → ST → Option (ST)
  | 0 => fun _ _ => none
  | k + 1 => X7_begins_L1_b  (X7_begins_L1  k)
def X7_begins (n : Nat) (s0 : ST) (v1 : Int32) : Option (ST) :=
nm (sI s0 0 v1) fun s1 =>
nm (sI s1 1 (0 : Int32)) fun s3 =>
nm (sI s3 2 (0 : Int32)) fun s5 =>
bd (X7_begins_L1 n (0 : Int32) s5) fun e16 =>
some e16
def X7_posts (n : Nat) (s0 : ST) (v1 : Int32) : Option (Int32 × ST) :=
bd (X7_in v1 (1 : Int32) (8 : Int32)) fun r1 =>
if r1 = 0 then (
some ((-2 : Int32), s0))
else (
nm (s0.1 0) fun v2_4 =>
bd (X7_begins n s0 v1) fun s7 =>
some (v2_4, s7))
def X7_isPost (s0 : ST) (v1 : Int32) : Option (Int32) :=
bd (X7_in v1 (0 : Int32) ((s0.1 0) - (1 : Int32))) fun r1 =>
gd (bz r1) <|
some r1
def X7_road (s0 : ST) (v1 : Int32) (v2 : Int32) (v3 : Int32) : Option (Int32 × ST) :=
bd (X7_isPost s0 v1) fun r2 =>
if r2 = 0 then (
some ((-1 : Int32), s0))
else (
bd (X7_isPost s0 v2) fun r5 =>
if r5 = 0 then (
some ((-1 : Int32), s0))
else (
bd (X7_in v3 (0 : Int32) (1 : Int32)) fun r7 =>
if r7 = 0 then (
some ((-2 : Int32), s0))
else (
if v1 = v2 then (
some ((-3 : Int32), s0))
else (
gd (inb v1 8) <|
nm (((s0.2.1 0 (v1).toNatClampNeg) >>> (v2 &&& 31)) &&& (1 : Int32)) fun v4_12 =>
gd (inb v1 8) <|
gd (inb v1 8) <|
nm (sA s0 0 (upd (s0.2.1 0) (v1).toNatClampNeg (((s0.2.1 0 (v1).toNatClampNeg) &&& (((1 : Int32) <<< (v2 &&& 31)) ^^^ (-1 : Int32))) ||| (v3 <<< (v2 &&& 31))))) fun s16 =>
some (v4_12, s16)))))
def X7_isRoad (s0 : ST) (v1 : Int32) (v2 : Int32) : Option (Int32) :=
bd (X7_isPost s0 v1) fun r2 =>
if r2 = 0 then (
some (-1 : Int32))
else (
bd (X7_isPost s0 v2) fun r5 =>
if r5 = 0 then (
some (-1 : Int32))
else (
gd (inb v1 8) <|
some (((s0.2.1 0 (v1).toNatClampNeg) >>> (v2 &&& 31)) &&& (1 : Int32))))
def X7_all (s0 : ST)  : Option (Int32) :=
some (((1 : Int32) <<< ((s0.1 0) &&& 31)) - (1 : Int32))
def X7_isSet (s0 : ST) (v1 : Int32) : Option (Int32) :=
bd (X7_all s0) fun r2 =>
bd (X7_in v1 (0 : Int32) r2) fun r3 =>
gd (bz r3) <|
some r3
def X7_targets (s0 : ST) (v1 : Int32) : Option (Int32 × ST) :=
bd (X7_isSet s0 v1) fun r2 =>
if r2 = 0 then (
some ((-2 : Int32), s0))
else (
nm (s0.1 1) fun v2_4 =>
nm (sI s0 1 v1) fun s6 =>
some (v2_4, s6))
def X7_weigh (s0 : ST) (v1 : Int32) (v2 : Int32) : Option (Int32 × ST) :=
bd (X7_isPost s0 v1) fun r2 =>
if r2 = 0 then (
some ((-1 : Int32), s0))
else (
bd (X7_in v2 (0 : Int32) (99 : Int32)) fun r4 =>
if r4 = 0 then (
some ((-2 : Int32), s0))
else (
gd (inb v1 8) <|
nm (s0.2.1 1 (v1).toNatClampNeg) fun v3_8 =>
gd (inb v1 8) <|
nm (sA s0 1 (upd (s0.2.1 1) (v1).toNatClampNeg v2)) fun s11 =>
some (v3_8, s11)))
def X7_add (s0 : ST) (v1 : Int32) : Option (Int32 × ST) :=
bd (X7_isSet s0 v1) fun r2 =>
if r2 = 0 then (
some ((-2 : Int32), s0))
else (
if (s0.1 2) = (8 : Int32) then (
some ((-4 : Int32), s0))
else (
gd (inb (s0.1 2) 8) <|
nm (sA s0 2 (upd (s0.2.1 2) ((s0.1 2)).toNatClampNeg v1)) fun s6 =>
nm (sI s6 2 ((s6.1 2) + (1 : Int32))) fun s8 =>
some (((s8.1 2) - (1 : Int32)), s8)))
def X7_isNumber (s0 : ST) (v1 : Int32) : Option (Int32) :=
bd (X7_in v1 (0 : Int32) ((s0.1 2) - (1 : Int32))) fun r1 =>
gd (bz r1) <|
some r1
def X7_change (s0 : ST) (v1 : Int32) (v2 : Int32) : Option (Int32 × ST) :=
bd (X7_isNumber s0 v1) fun r2 =>
if r2 = 0 then (
some ((-1 : Int32), s0))
else (
bd (X7_isSet s0 v2) fun r5 =>
if r5 = 0 then (
some ((-2 : Int32), s0))
else (
gd (inb v1 8) <|
nm (s0.2.1 2 (v1).toNatClampNeg) fun v3_8 =>
gd (inb v1 8) <|
nm (sA s0 2 (upd (s0.2.1 2) (v1).toNatClampNeg v2)) fun s11 =>
some (v3_8, s11)))
def X7_goes_L1_b  (rec : Int32 → ST → Option (ST)) (v2 : Int32) (s0 : ST) : Option (ST) :=
if (s0.1 2) ≤ v2 then (
some s0)
else (
gd (inb (v2 + (1 : Int32)) 8) <|
gd (inb v2 8) <|
nm (sA s0 2 (upd (s0.2.1 2) (v2).toNatClampNeg (s0.2.1 2 ((v2 + (1 : Int32))).toNatClampNeg))) fun s6 =>
nm (v2 + (1 : Int32)) fun v2_8 =>
rec v2_8 s6)
def X7_goes_L1  : Nat → Int32 → ST → Option (ST)
  | 0 => fun _ _ => none
  | k + 1 => X7_goes_L1_b  (X7_goes_L1  k)
def X7_goes (n : Nat) (s0 : ST) (v1 : Int32) : Option (ST) :=
nm (sI s0 2 ((s0.1 2) - (1 : Int32))) fun s1 =>
bd (X7_goes_L1 n v1 s1) fun e10 =>
some e10
def X7_drop (n : Nat) (s0 : ST) (v1 : Int32) : Option (Int32 × ST) :=
bd (X7_isNumber s0 v1) fun r2 =>
if r2 = 0 then (
some ((-1 : Int32), s0))
else (
bd (X7_goes n s0 v1) fun s5 =>
some ((s5.1 2), s5))
def X7_set (s0 : ST) (v1 : Int32) : Option (Int32) :=
bd (X7_isNumber s0 v1) fun r2 =>
if r2 = 0 then (
some (-1 : Int32))
else (
gd (inb v1 8) <|
some (s0.2.1 2 (v1).toNatClampNeg))
def X7_isSide (v0 : Int32) : Option (Int32) :=
bd (X7_in v0 (0 : Int32) (3 : Int32)) fun r1 =>
gd (bz r1) <|
some r1
def X7_has (v0 : Int32) (v1 : Int32) : Option (Int32) :=
if ((v0 >>> (v1 &&& 31)) &&& (1 : Int32)) = (1 : Int32) then (
some (1 : Int32))
else (
some (0 : Int32))
def X7_meeting_L1_b (s0 : ST) (v1 : Int32) (v2 : Int32) (rec : Int32 → Int32 → Option (Int32)) (v4 : Int32) (v3 : Int32) : Option (Int32) :=
if (s0.1 2) ≤ v4 then (
some v3)
else (
bd (X7_has v2 v4) fun r2 =>
if r2 = 0 then (
gd (inb v4 8) <|
if ((s0.2.1 2 (v4).toNatClampNeg) &&& v1) = 0 then (
nm (v3 + (0 : Int32)) fun v3_11 =>
nm (v4 + (1 : Int32)) fun v4_13 =>
rec v4_13 v3_11)
else (
nm (v3 + (1 : Int32)) fun v3_15 =>
nm (v4 + (1 : Int32)) fun v4_17 =>
rec v4_17 v3_15))
else (
nm (v3 + (0 : Int32)) fun v3_5 =>
nm (v4 + (1 : Int32)) fun v4_7 =>
rec v4_7 v3_5))
def X7_meeting_L1 (s0 : ST) (v1 : Int32) (v2 : Int32) : Nat → Int32 → Int32 → Option (Int32)
  | 0 => fun _ _ => none
  | k + 1 => X7_meeting_L1_b s0 v1 v2 (X7_meeting_L1 s0 v1 v2 k)
def X7_meeting (n : Nat) (s0 : ST) (v1 : Int32) (v2 : Int32) : Option (Int32) :=
bd (X7_meeting_L1 s0 v1 v2 n (0 : Int32) (0 : Int32)) fun e19 =>
some e19
def X7_cutOf_L1_b (s0 : ST) (v1 : Int32) (rec : Int32 → Int32 → Option (Int32)) (v3 : Int32) (v2 : Int32) : Option (Int32) :=
if v3 < 0 then (
some v2)
else (
gd (inb v3 256) <|
if (v1 &&& (s0.2.1 7 (v3).toNatClampNeg)) = 0 then (
bd (J6_bitCount v3) fun r8 =>
bd (J6_bitCount v2) fun r10 =>
if r10 < r8 then (
nm (v3 + (-1 : Int32)) fun v3_13 =>
rec v3_13 v2)
else (
nm (v3 + (-1 : Int32)) fun v3_15 =>
rec v3_15 v3))
else (
nm (v3 + (-1 : Int32)) fun v3_6 =>
rec v3_6 v2))
def X7_cutOf_L1 (s0 : ST) (v1 : Int32) : Nat → Int32 → Int32 → Option (Int32)
  | 0 => fun _ _ => none
  | k + 1 => X7_cutOf_L1_b s0 v1 (X7_cutOf_L1 s0 v1 k)
def X7_cutOf (n : Nat) (s0 : ST) (v1 : Int32) : Option (Int32) :=
bd (X7_all s0) fun r2 =>
bd (X7_cutOf_L1 s0 v1 n r2 v1) fun e17 =>
some e17
def X7_openPast_L2_b (s0 : ST) (v1 : Int32) (rec : Int32 → Int32 → Int32 → Option (Int32 × Int32)) (v4 : Int32) (v3 : Int32) (v2 : Int32) : Option (Int32 × Int32) :=
if (s0.1 0) ≤ v4 then (
some (v3, v2))
else (
bd (X7_has v2 v4) fun r5 =>
if r5 = 0 then (
bd (X7_has v1 v4) fun r10 =>
if r10 = 0 then (
gd (inb v4 8) <|
if ((s0.2.1 0 (v4).toNatClampNeg) &&& v2) = 0 then (
nm (v4 + (1 : Int32)) fun v4_17 =>
rec v4_17 v3 v2)
else (
nm (v2 ||| ((1 : Int32) <<< (v4 &&& 31))) fun v2_19 =>
nm (v4 + (1 : Int32)) fun v4_21 =>
rec v4_21 (1 : Int32) v2_19))
else (
nm (v4 + (1 : Int32)) fun v4_13 =>
rec v4_13 v3 v2))
else (
nm (v4 + (1 : Int32)) fun v4_8 =>
rec v4_8 v3 v2))
def X7_openPast_L2 (s0 : ST) (v1 : Int32) : Nat → Int32 → Int32 → Int32 → Option (Int32 × Int32)
  | 0 => fun _ _ _ => none
  | k + 1 => X7_openPast_L2_b s0 v1 (X7_openPast_L2 s0 v1 k)
def X7_openPast_L1_b (n : Nat) (s0 : ST) (v1 : Int32) (rec : Int32 → Int32 → Option (Int32)) (v3 : Int32) (v2 : Int32) : Option (Int32) :=
if v3 = 0 then (
some v2)
else (
bd (X7_openPast_L2 s0 v1 n (0 : Int32) (0 : Int32) v2) fun e23 =>
rec e23.1 e23.2)
def X7_openPast_L1 (n : Nat) (s0 : ST) (v1 : Int32) : Nat → Int32 → Int32 → Option (Int32)
  | 0 => fun _ _ => none
  | k + 1 => X7_openPast_L1_b n s0 v1 (X7_openPast_L1 n s0 v1 k)
def X7_openPast (n : Nat) (s0 : ST) (v1 : Int32) : Option (Int32) :=
nm ((s0.1 1) &&& (v1 ^^^ (-1 : Int32))) fun v2_1 =>
bd (X7_openPast_L1 n s0 v1 n (1 : Int32) v2_1) fun e25 =>
some e25
def X7_layCuts_L1_b (n : Nat)  (rec : Int32 → ST → Option (ST)) (v1 : Int32) (s0 : ST) : Option (ST) :=
bd (X7_all s0) fun r2 =>
if r2 < v1 then (
some s0)
else (
bd (X7_openPast n s0 v1) fun r5 =>
gd (inb v1 256) <|
nm (sA s0 7 (upd (s0.2.1 7) (v1).toNatClampNeg r5)) fun s7 =>
nm (v1 + (1 : Int32)) fun v1_9 =>
rec v1_9 s7)
def X7_layCuts_L1 (n : Nat)  : Nat → Int32 → ST → Option (ST)
  | 0 => fun _ _ => none
  | k + 1 => X7_layCuts_L1_b n (X7_layCuts_L1 n k)
def X7_layCuts (n : Nat) (s0 : ST)  : Option (ST) :=
bd (X7_layCuts_L1 n n (0 : Int32) s0) fun e11 =>
some e11
def X7_layFree_L2_b (s0 : ST) (v2 : Int32) (rec : Int32 → Int32 → Option (Int32)) (v4 : Int32) (v3 : Int32) : Option (Int32) :=
if (s0.1 0) ≤ v4 then (
some v3)
else (
if v3 = 0 then (
nm (v4 + (1 : Int32)) fun v4_13 =>
rec v4_13 (0 : Int32))
else (
bd (X7_has v2 v4) fun r15 =>
if r15 = 0 then (
nm (v4 + (1 : Int32)) fun v4_18 =>
rec v4_18 (1 : Int32))
else (
gd (inb (v2 &&& (((1 : Int32) <<< (v4 &&& 31)) ^^^ (-1 : Int32))) 256) <|
if (s0.2.1 8 ((v2 &&& (((1 : Int32) <<< (v4 &&& 31)) ^^^ (-1 : Int32)))).toNatClampNeg) = 0 then (
nm (v4 + (1 : Int32)) fun v4_22 =>
rec v4_22 (0 : Int32))
else (
nm (v4 + (1 : Int32)) fun v4_24 =>
rec v4_24 (1 : Int32)))))
def X7_layFree_L2 (s0 : ST) (v2 : Int32) : Nat → Int32 → Int32 → Option (Int32)
  | 0 => fun _ _ => none
  | k + 1 => X7_layFree_L2_b s0 v2 (X7_layFree_L2 s0 v2 k)
def X7_layFree_L1_b (n : Nat) (v1 : Int32) (rec : Int32 → ST → Option (ST)) (v2 : Int32) (s0 : ST) : Option (ST) :=
bd (X7_all s0) fun r3 =>
if r3 < v2 then (
some s0)
else (
if v1 = 0 then (
bd (X7_cutOf n s0 v2) fun r43 =>
bd (J6_bitCount r43) fun r44 =>
bd (J6_bitCount v2) fun r46 =>
if r44 = r46 then (
gd (inb v2 256) <|
gd (bz (1 : Int32)) <|
nm (sA s0 8 (upd (s0.2.1 8) (v2).toNatClampNeg (1 : Int32))) fun s56 =>
nm (v2 + (1 : Int32)) fun v2_59 =>
rec v2_59 s56)
else (
gd (inb v2 256) <|
gd (bz (0 : Int32)) <|
nm (sA s0 8 (upd (s0.2.1 8) (v2).toNatClampNeg (0 : Int32))) fun s50 =>
nm (v2 + (1 : Int32)) fun v2_53 =>
rec v2_53 s50))
else (
bd (X7_meeting n s0 v2 (0 : Int32)) fun r7 =>
bd (J6_bitCount v2) fun r8 =>
if r7 < r8 then (
bd (X7_layFree_L2 s0 v2 n (0 : Int32) (0 : Int32)) fun e26 =>
gd (inb v2 256) <|
gd (bz e26) <|
nm (sA s0 8 (upd (s0.2.1 8) (v2).toNatClampNeg e26)) fun s29 =>
nm (v2 + (1 : Int32)) fun v2_32 =>
rec v2_32 s29)
else (
bd (X7_layFree_L2 s0 v2 n (0 : Int32) (1 : Int32)) fun e34 =>
gd (inb v2 256) <|
gd (bz e34) <|
nm (sA s0 8 (upd (s0.2.1 8) (v2).toNatClampNeg e34)) fun s37 =>
nm (v2 + (1 : Int32)) fun v2_40 =>
rec v2_40 s37)))
def X7_layFree_L1 (n : Nat) (v1 : Int32) : Nat → Int32 → ST → Option (ST)
  | 0 => fun _ _ => none
  | k + 1 => X7_layFree_L1_b n v1 (X7_layFree_L1 n v1 k)
def X7_layFree (n : Nat) (s0 : ST) (v1 : Int32) : Option (ST) :=
if v1 = 0 then (
bd (X7_layCuts n s0) fun s64 =>
bd (X7_layFree_L1 n v1 n (0 : Int32) s64) fun e65 =>
some e65)
else (
bd (X7_layFree_L1 n v1 n (0 : Int32) s0) fun e61 =>
some e61)
def X7_layRanks_L2_b (s0 : ST) (v1 : Int32) (rec : Int32 → Int32 → Option (Int32)) (v3 : Int32) (v2 : Int32) : Option (Int32) :=
if (s0.1 0) ≤ v3 then (
some v2)
else (
bd (X7_has v1 v3) fun r7 =>
if r7 = 0 then (
nm (v3 + (1 : Int32)) fun v3_10 =>
rec v3_10 v2)
else (
gd (inb (v1 &&& (((1 : Int32) <<< (v3 &&& 31)) ^^^ (-1 : Int32))) 256) <|
nm (if v2 < (s0.2.1 10 ((v1 &&& (((1 : Int32) <<< (v3 &&& 31)) ^^^ (-1 : Int32)))).toNatClampNeg) then (s0.2.1 10 ((v1 &&& (((1 : Int32) <<< (v3 &&& 31)) ^^^ (-1 : Int32)))).toNatClampNeg) else v2) fun r13 =>
nm (v3 + (1 : Int32)) fun v3_15 =>
rec v3_15 r13))
def X7_layRanks_L2 (s0 : ST) (v1 : Int32) : Nat → Int32 → Int32 → Option (Int32)
  | 0 => fun _ _ => none
  | k + 1 => X7_layRanks_L2_b s0 v1 (X7_layRanks_L2 s0 v1 k)
def X7_layRanks_L1_b (n : Nat)  (rec : Int32 → ST → Option (ST)) (v1 : Int32) (s0 : ST) : Option (ST) :=
bd (X7_all s0) fun r2 =>
if r2 < v1 then (
some s0)
else (
gd (inb v1 256) <|
if (s0.2.1 8 (v1).toNatClampNeg) = 0 then (
bd (X7_layRanks_L2 s0 v1 n (0 : Int32) (0 : Int32)) fun e17 =>
gd (inb v1 256) <|
nm (sA s0 10 (upd (s0.2.1 10) (v1).toNatClampNeg e17)) fun s20 =>
nm (v1 + (1 : Int32)) fun v1_22 =>
rec v1_22 s20)
else (
bd (J6_bitCount v1) fun r24 =>
bd (X7_layRanks_L2 s0 v1 n (0 : Int32) r24) fun e26 =>
gd (inb v1 256) <|
nm (sA s0 10 (upd (s0.2.1 10) (v1).toNatClampNeg e26)) fun s29 =>
nm (v1 + (1 : Int32)) fun v1_31 =>
rec v1_31 s29))
def X7_layRanks_L1 (n : Nat)  : Nat → Int32 → ST → Option (ST)
  | 0 => fun _ _ => none
  | k + 1 => X7_layRanks_L1_b n (X7_layRanks_L1 n k)
def X7_layRanks_L3_b  (rec : Int32 → ST → Option (ST)) (v1 : Int32) (s0 : ST) : Option (ST) :=
bd (X7_all s0) fun r36 =>
if r36 < v1 then (
some s0)
else (
gd (inb v1 256) <|
if (s0.2.1 8 (v1).toNatClampNeg) = 0 then (
gd (inb v1 256) <|
gd (bz (0 : Int32)) <|
nm (sA s0 9 (upd (s0.2.1 9) (v1).toNatClampNeg (0 : Int32))) fun s41 =>
nm (v1 + (1 : Int32)) fun v1_44 =>
rec v1_44 s41)
else (
bd (J6_bitCount v1) fun r46 =>
bd (X7_all s0) fun r49 =>
gd (inb r49 256) <|
if r46 = (s0.2.1 10 (r49).toNatClampNeg) then (
gd (inb v1 256) <|
gd (bz (1 : Int32)) <|
nm (sA s0 9 (upd (s0.2.1 9) (v1).toNatClampNeg (1 : Int32))) fun s59 =>
nm (v1 + (1 : Int32)) fun v1_62 =>
rec v1_62 s59)
else (
gd (inb v1 256) <|
gd (bz (0 : Int32)) <|
nm (sA s0 9 (upd (s0.2.1 9) (v1).toNatClampNeg (0 : Int32))) fun s53 =>
nm (v1 + (1 : Int32)) fun v1_56 =>
rec v1_56 s53)))
def X7_layRanks_L3  : Nat → Int32 → ST → Option (ST)
  | 0 => fun _ _ => none
  | k + 1 => X7_layRanks_L3_b  (X7_layRanks_L3  k)
def X7_layRanks (n : Nat) (s0 : ST)  : Option (ST) :=
bd (X7_layRanks_L1 n n (0 : Int32) s0) fun e33 =>
bd (X7_layRanks_L3 n (0 : Int32) e33) fun e64 =>
some e64
def X7_isPastBase_L1_b (s0 : ST) (v1 : Int32) (rec : Int32 → Option ((Int32) ⊕ (Unit))) (v2 : Int32) : Option ((Int32) ⊕ (Unit)) :=
bd (X7_all s0) fun r2 =>
if r2 < v2 then (
some (Sum.inr ()))
else (
gd (inb v2 256) <|
if (s0.2.1 9 (v2).toNatClampNeg) = 0 then (
nm (v2 + (1 : Int32)) fun v2_6 =>
rec v2_6)
else (
if (v2 &&& v1) = 0 then (
some (Sum.inl (1 : Int32)))
else (
nm (v2 + (1 : Int32)) fun v2_9 =>
rec v2_9)))
def X7_isPastBase_L1 (s0 : ST) (v1 : Int32) : Nat → Int32 → Option ((Int32) ⊕ (Unit))
  | 0 => fun _ => none
  | k + 1 => X7_isPastBase_L1_b s0 v1 (X7_isPastBase_L1 s0 v1 k)
def X7_isPastBase (n : Nat) (s0 : ST) (v1 : Int32) : Option (Int32) :=
bd (X7_isPastBase_L1 s0 v1 n (0 : Int32)) fun e11 =>
sm e11 (fun rv => some rv) fun e13 =>
some (0 : Int32)
def X7_lay_L1_b (n : Nat)  (rec : Int32 → ST → Option (ST)) (v2 : Int32) (s0 : ST) : Option (ST) :=
bd (X7_all s0) fun r7 =>
if r7 < v2 then (
some s0)
else (
bd (X7_isPastBase n s0 v2) fun r10 =>
gd (inb v2 256) <|
gd (bz r10) <|
nm (sA s0 8 (upd (s0.2.1 8) (v2).toNatClampNeg r10)) fun s12 =>
nm (v2 + (1 : Int32)) fun v2_15 =>
rec v2_15 s12)
def X7_lay_L1 (n : Nat)  : Nat → Int32 → ST → Option (ST)
  | 0 => fun _ _ => none
  | k + 1 => X7_lay_L1_b n (X7_lay_L1 n k)
def X7_lay (n : Nat) (s0 : ST) (v1 : Int32) : Option (ST) :=
bd (X7_layFree n s0 (v1 - v1 / (2 : Int32) * (2 : Int32))) fun s2 =>
bd (X7_layRanks n s2) fun s4 =>
if v1 < (2 : Int32) then (
some s4)
else (
bd (X7_lay_L1 n n (0 : Int32) s4) fun e17 =>
bd (X7_layRanks n e17) fun s20 =>
some s20)
def X7_rank (n : Nat) (s0 : ST) (v1 : Int32) (v2 : Int32) : Option (Int32 × ST) :=
bd (X7_isSide v1) fun r1 =>
if r1 = 0 then (
some ((-1 : Int32), s0))
else (
bd (X7_isSet s0 v2) fun r5 =>
if r5 = 0 then (
some ((-2 : Int32), s0))
else (
bd (X7_lay n s0 v1) fun s8 =>
gd (inb v2 256) <|
some ((s8.2.1 10 (v2).toNatClampNeg), s8)))
def X7_free (n : Nat) (s0 : ST) (v1 : Int32) (v2 : Int32) : Option (Int32 × ST) :=
bd (X7_isSide v1) fun r1 =>
if r1 = 0 then (
some ((-1 : Int32), s0))
else (
bd (X7_isSet s0 v2) fun r5 =>
if r5 = 0 then (
some ((-2 : Int32), s0))
else (
bd (X7_lay n s0 v1) fun s8 =>
gd (inb v2 256) <|
if (s8.2.1 8 (v2).toNatClampNeg) = 0 then (
some ((0 : Int32), s8))
else (
some ((1 : Int32), s8))))
def X7_shutOf_L1_b (s0 : ST) (v1 : Int32) (rec : Int32 → Int32 → Option (Int32)) (v3 : Int32) (v2 : Int32) : Option (Int32) :=
if (s0.1 0) ≤ v3 then (
some v2)
else (
gd (inb (v1 ||| ((1 : Int32) <<< (v3 &&& 31))) 256) <|
gd (inb v1 256) <|
if (s0.2.1 10 ((v1 ||| ((1 : Int32) <<< (v3 &&& 31)))).toNatClampNeg) = (s0.2.1 10 (v1).toNatClampNeg) then (
nm (v2 ||| ((1 : Int32) <<< (v3 &&& 31))) fun v2_9 =>
nm (v3 + (1 : Int32)) fun v3_11 =>
rec v3_11 v2_9)
else (
nm (v2 ||| (0 : Int32)) fun v2_5 =>
nm (v3 + (1 : Int32)) fun v3_7 =>
rec v3_7 v2_5))
def X7_shutOf_L1 (s0 : ST) (v1 : Int32) : Nat → Int32 → Int32 → Option (Int32)
  | 0 => fun _ _ => none
  | k + 1 => X7_shutOf_L1_b s0 v1 (X7_shutOf_L1 s0 v1 k)
def X7_shutOf (n : Nat) (s0 : ST) (v1 : Int32) : Option (Int32) :=
bd (X7_shutOf_L1 s0 v1 n (0 : Int32) (0 : Int32)) fun e13 =>
some e13
def X7_isCircuit_L1_b (s0 : ST) (v1 : Int32) (rec : Int32 → Int32 → Option (Int32)) (v3 : Int32) (v2 : Int32) : Option (Int32) :=
if (s0.1 0) ≤ v3 then (
some v2)
else (
if v2 = 0 then (
nm (v3 + (1 : Int32)) fun v3_5 =>
rec v3_5 (0 : Int32))
else (
bd (X7_has v1 v3) fun r7 =>
if r7 = 0 then (
nm (v3 + (1 : Int32)) fun v3_10 =>
rec v3_10 (1 : Int32))
else (
gd (inb (v1 &&& (((1 : Int32) <<< (v3 &&& 31)) ^^^ (-1 : Int32))) 256) <|
if (s0.2.1 8 ((v1 &&& (((1 : Int32) <<< (v3 &&& 31)) ^^^ (-1 : Int32)))).toNatClampNeg) = 0 then (
nm (v3 + (1 : Int32)) fun v3_14 =>
rec v3_14 (0 : Int32))
else (
nm (v3 + (1 : Int32)) fun v3_16 =>
rec v3_16 (1 : Int32)))))
def X7_isCircuit_L1 (s0 : ST) (v1 : Int32) : Nat → Int32 → Int32 → Option (Int32)
  | 0 => fun _ _ => none
  | k + 1 => X7_isCircuit_L1_b s0 v1 (X7_isCircuit_L1 s0 v1 k)
def X7_isCircuit (n : Nat) (s0 : ST) (v1 : Int32) : Option (Int32) :=
gd (inb v1 256) <|
if (s0.2.1 8 (v1).toNatClampNeg) = 0 then (
bd (X7_isCircuit_L1 s0 v1 n (0 : Int32) (1 : Int32)) fun e21 =>
gd (bz e21) <|
some e21)
else (
bd (X7_isCircuit_L1 s0 v1 n (0 : Int32) (0 : Int32)) fun e18 =>
gd (bz e18) <|
some e18)
def X7_listed_L1_b (n : Nat) (s0 : ST) (v2 : Int32) (v3 : Int32) (rec : Int32 → Int32 → Option ((Int32 × ST) ⊕ (Int32))) (v5 : Int32) (v4 : Int32) : Option ((Int32 × ST) ⊕ (Int32)) :=
bd (X7_all s0) fun r8 =>
if r8 < v5 then (
some (Sum.inr v4))
else (
if v2 = 0 then (
gd (inb v5 256) <|
nm (s0.2.1 9 (v5).toNatClampNeg) fun v6_78 =>
if v6_78 = 0 then (
if v6_78 = 0 then (
nm (v4 + (0 : Int32)) fun v4_82 =>
nm (v5 + (1 : Int32)) fun v5_84 =>
rec v5_84 v4_82)
else (
nm (v4 + (1 : Int32)) fun v4_86 =>
nm (v5 + (1 : Int32)) fun v5_88 =>
rec v5_88 v4_86))
else (
if v4 = v3 then (
some (Sum.inl (v5, s0)))
else (
if v6_78 = 0 then (
nm (v4 + (0 : Int32)) fun v4_92 =>
nm (v5 + (1 : Int32)) fun v5_94 =>
rec v5_94 v4_92)
else (
nm (v4 + (1 : Int32)) fun v4_96 =>
nm (v5 + (1 : Int32)) fun v5_98 =>
rec v5_98 v4_96))))
else (
if v2 = (1 : Int32) then (
bd (X7_isCircuit n s0 v5) fun r56 =>
if r56 = 0 then (
if r56 = 0 then (
nm (v4 + (0 : Int32)) fun v4_59 =>
nm (v5 + (1 : Int32)) fun v5_61 =>
rec v5_61 v4_59)
else (
nm (v4 + (1 : Int32)) fun v4_63 =>
nm (v5 + (1 : Int32)) fun v5_65 =>
rec v5_65 v4_63))
else (
if v4 = v3 then (
some (Sum.inl (v5, s0)))
else (
if r56 = 0 then (
nm (v4 + (0 : Int32)) fun v4_69 =>
nm (v5 + (1 : Int32)) fun v5_71 =>
rec v5_71 v4_69)
else (
nm (v4 + (1 : Int32)) fun v4_73 =>
nm (v5 + (1 : Int32)) fun v5_75 =>
rec v5_75 v4_73))))
else (
bd (X7_shutOf n s0 v5) fun r13 =>
if r13 = v5 then (
if (1 : Int32) = 0 then (
if (1 : Int32) = 0 then (
nm (v4 + (0 : Int32)) fun v4_37 =>
nm (v5 + (1 : Int32)) fun v5_39 =>
rec v5_39 v4_37)
else (
nm (v4 + (1 : Int32)) fun v4_41 =>
nm (v5 + (1 : Int32)) fun v5_43 =>
rec v5_43 v4_41))
else (
if v4 = v3 then (
some (Sum.inl (v5, s0)))
else (
if (1 : Int32) = 0 then (
nm (v4 + (0 : Int32)) fun v4_47 =>
nm (v5 + (1 : Int32)) fun v5_49 =>
rec v5_49 v4_47)
else (
nm (v4 + (1 : Int32)) fun v4_51 =>
nm (v5 + (1 : Int32)) fun v5_53 =>
rec v5_53 v4_51))))
else (
if (0 : Int32) = 0 then (
if (0 : Int32) = 0 then (
nm (v4 + (0 : Int32)) fun v4_17 =>
nm (v5 + (1 : Int32)) fun v5_19 =>
rec v5_19 v4_17)
else (
nm (v4 + (1 : Int32)) fun v4_21 =>
nm (v5 + (1 : Int32)) fun v5_23 =>
rec v5_23 v4_21))
else (
if v4 = v3 then (
some (Sum.inl (v5, s0)))
else (
if (0 : Int32) = 0 then (
nm (v4 + (0 : Int32)) fun v4_27 =>
nm (v5 + (1 : Int32)) fun v5_29 =>
rec v5_29 v4_27)
else (
nm (v4 + (1 : Int32)) fun v4_31 =>
nm (v5 + (1 : Int32)) fun v5_33 =>
rec v5_33 v4_31)))))))
def X7_listed_L1 (n : Nat) (s0 : ST) (v2 : Int32) (v3 : Int32) : Nat → Int32 → Int32 → Option ((Int32 × ST) ⊕ (Int32))
  | 0 => fun _ _ => none
  | k + 1 => X7_listed_L1_b n s0 v2 v3 (X7_listed_L1 n s0 v2 v3 k)
def X7_listed (n : Nat) (s0 : ST) (v1 : Int32) (v2 : Int32) (v3 : Int32) : Option (Int32 × ST) :=
bd (X7_isSide v1) fun r1 =>
if r1 = 0 then (
some ((-1 : Int32), s0))
else (
if (-1 : Int32) ≤ v3 then (
bd (X7_lay n s0 v1) fun s6 =>
bd (X7_listed_L1 n s6 v2 v3 n (0 : Int32) (0 : Int32)) fun e100 =>
sm e100 (fun rv => some rv) fun e102 =>
if 0 ≤ v3 then (
some ((-1 : Int32), s6))
else (
some (e102, s6)))
else (
some ((-1 : Int32), s0)))
def X7_base (n : Nat) (s0 : ST) (v1 : Int32) (v2 : Int32) : Option (Int32 × ST) :=
bd2 (X7_listed n s0 v1 (0 : Int32) v2) fun r3 s2 =>
some (r3, s2)
def X7_circuit (n : Nat) (s0 : ST) (v1 : Int32) (v2 : Int32) : Option (Int32 × ST) :=
bd2 (X7_listed n s0 v1 (1 : Int32) v2) fun r3 s2 =>
some (r3, s2)
def X7_flat (n : Nat) (s0 : ST) (v1 : Int32) (v2 : Int32) : Option (Int32 × ST) :=
bd2 (X7_listed n s0 v1 (2 : Int32) v2) fun r3 s2 =>
some (r3, s2)
def X7_shut (n : Nat) (s0 : ST) (v1 : Int32) (v2 : Int32) : Option (Int32 × ST) :=
bd (X7_isSide v1) fun r1 =>
if r1 = 0 then (
some ((-1 : Int32), s0))
else (
bd (X7_isSet s0 v2) fun r5 =>
if r5 = 0 then (
some ((-2 : Int32), s0))
else (
bd (X7_lay n s0 v1) fun s8 =>
bd (X7_shutOf n s8 v2) fun r10 =>
some (r10, s8)))
def X7_loops_L1_b (s0 : ST)  (rec : Int32 → Int32 → Int32 → Option (Int32 × Int32)) (v5 : Int32) (v4 : Int32) (v3 : Int32) : Option (Int32 × Int32) :=
bd (X7_all s0) fun r12 =>
if r12 < v5 then (
some (v4, v3))
else (
gd (inb v5 256) <|
if (s0.2.1 9 (v5).toNatClampNeg) = 0 then (
nm (v5 + (1 : Int32)) fun v5_16 =>
rec v5_16 v4 v3)
else (
nm (v3 ||| v5) fun v3_18 =>
nm (v4 &&& v5) fun v4_20 =>
nm (v5 + (1 : Int32)) fun v5_22 =>
rec v5_22 v4_20 v3_18))
def X7_loops_L1 (s0 : ST)  : Nat → Int32 → Int32 → Int32 → Option (Int32 × Int32)
  | 0 => fun _ _ _ => none
  | k + 1 => X7_loops_L1_b s0 (X7_loops_L1 s0 k)
def X7_loops (n : Nat) (s0 : ST) (v1 : Int32) (v2 : Int32) : Option (Int32 × ST) :=
bd (X7_isSide v1) fun r1 =>
if r1 = 0 then (
some ((-1 : Int32), s0))
else (
bd (X7_in v2 (0 : Int32) (1 : Int32)) fun r4 =>
if r4 = 0 then (
some ((-1 : Int32), s0))
else (
bd (X7_lay n s0 v1) fun s8 =>
bd (X7_all s8) fun r10 =>
bd (X7_loops_L1 s8 n (0 : Int32) r10 (0 : Int32)) fun e24 =>
if v2 = 0 then (
bd (X7_all s8) fun r28 =>
some ((r28 &&& (e24.2 ^^^ (-1 : Int32))), s8))
else (
some (e24.1, s8))))
def X7_round_L1_b (s0 : ST) (v4 : Int32) (rec : Int32 → Int32 → Option (Int32)) (v6 : Int32) (v5 : Int32) : Option (Int32) :=
if (s0.1 0) ≤ v6 then (
some v5)
else (
bd (X7_has v4 v6) fun r20 =>
if r20 = 0 then (
nm (v5 ||| (0 : Int32)) fun v5_23 =>
nm (v6 + (1 : Int32)) fun v6_25 =>
rec v6_25 v5_23)
else (
gd (inb (v4 &&& (((1 : Int32) <<< (v6 &&& 31)) ^^^ (-1 : Int32))) 256) <|
if (s0.2.1 8 ((v4 &&& (((1 : Int32) <<< (v6 &&& 31)) ^^^ (-1 : Int32)))).toNatClampNeg) = 0 then (
nm (v5 ||| (0 : Int32)) fun v5_29 =>
nm (v6 + (1 : Int32)) fun v6_31 =>
rec v6_31 v5_29)
else (
nm (v5 ||| ((1 : Int32) <<< (v6 &&& 31))) fun v5_33 =>
nm (v6 + (1 : Int32)) fun v6_35 =>
rec v6_35 v5_33)))
def X7_round_L1 (s0 : ST) (v4 : Int32) : Nat → Int32 → Int32 → Option (Int32)
  | 0 => fun _ _ => none
  | k + 1 => X7_round_L1_b s0 v4 (X7_round_L1 s0 v4 k)
def X7_round (n : Nat) (s0 : ST) (v1 : Int32) (v2 : Int32) (v3 : Int32) : Option (Int32 × ST) :=
bd (X7_isSide v1) fun r1 =>
if r1 = 0 then (
some ((-1 : Int32), s0))
else (
bd (X7_isPost s0 v3) fun r5 =>
if r5 = 0 then (
some ((-1 : Int32), s0))
else (
bd (X7_isSet s0 v2) fun r8 =>
if r8 = 0 then (
some ((-2 : Int32), s0))
else (
bd (X7_lay n s0 v1) fun s11 =>
gd (inb v2 256) <|
if (s11.2.1 9 (v2).toNatClampNeg) = 0 then (
some ((-5 : Int32), s11))
else (
bd (X7_has v2 v3) fun r14 =>
if r14 = 0 then (
nm (v2 ||| ((1 : Int32) <<< (v3 &&& 31))) fun v4_17 =>
bd (X7_round_L1 s11 v4_17 n (0 : Int32) (0 : Int32)) fun e37 =>
some (e37, s11))
else (
some ((-5 : Int32), s11))))))
def X7_swap_L1_b (s0 : ST) (v2 : Int32) (v3 : Int32) (v4 : Int32) (rec : Int32 → Option (Int32)) (v5 : Int32) : Option (Int32) :=
bd (X7_has v3 v5) fun r25 =>
if r25 = 0 then (
nm (v5 + (1 : Int32)) fun v5_28 =>
rec v5_28)
else (
bd (X7_has v2 v5) fun r30 =>
if r30 = 0 then (
gd (inb ((v2 &&& (((1 : Int32) <<< (v4 &&& 31)) ^^^ (-1 : Int32))) ||| ((1 : Int32) <<< (v5 &&& 31))) 256) <|
if (s0.2.1 9 (((v2 &&& (((1 : Int32) <<< (v4 &&& 31)) ^^^ (-1 : Int32))) ||| ((1 : Int32) <<< (v5 &&& 31)))).toNatClampNeg) = 0 then (
nm (v5 + (1 : Int32)) fun v5_37 =>
rec v5_37)
else (
some v5))
else (
nm (v5 + (1 : Int32)) fun v5_33 =>
rec v5_33))
def X7_swap_L1 (s0 : ST) (v2 : Int32) (v3 : Int32) (v4 : Int32) : Nat → Int32 → Option (Int32)
  | 0 => fun _ => none
  | k + 1 => X7_swap_L1_b s0 v2 v3 v4 (X7_swap_L1 s0 v2 v3 v4 k)
def X7_swap (n : Nat) (s0 : ST) (v1 : Int32) (v2 : Int32) (v3 : Int32) (v4 : Int32) : Option (Int32 × ST) :=
bd (X7_isSide v1) fun r1 =>
if r1 = 0 then (
some ((-1 : Int32), s0))
else (
bd (X7_isPost s0 v4) fun r5 =>
if r5 = 0 then (
some ((-1 : Int32), s0))
else (
bd (X7_isSet s0 v2) fun r8 =>
if r8 = 0 then (
some ((-2 : Int32), s0))
else (
bd (X7_isSet s0 v3) fun r11 =>
if r11 = 0 then (
some ((-2 : Int32), s0))
else (
bd (X7_lay n s0 v1) fun s14 =>
gd (inb v2 256) <|
if (s14.2.1 9 (v2).toNatClampNeg) = 0 then (
some ((-5 : Int32), s14))
else (
gd (inb v3 256) <|
if (s14.2.1 9 (v3).toNatClampNeg) = 0 then (
some ((-5 : Int32), s14))
else (
bd (X7_has v2 v4) fun r19 =>
if r19 = 0 then (
some ((-5 : Int32), s14))
else (
bd (X7_has v3 v4) fun r22 =>
if r22 = 0 then (
bd (X7_swap_L1 s14 v2 v3 v4 n (0 : Int32)) fun e39 =>
some (e39, s14))
else (
some ((-5 : Int32), s14)))))))))
def X7_steps_L2_b (s0 : ST) (v3 : Int32) (rec : Int32 → Int32 → Option (Int32)) (v4 : Int32) (v2 : Int32) : Option (Int32) :=
if v3 ≤ v4 then (
some v2)
else (
gd (inb v3 256) <|
if (s0.2.1 9 (v3).toNatClampNeg) = 0 then (
nm (v2 + (0 : Int32)) fun v2_12 =>
nm (v4 + (1 : Int32)) fun v4_14 =>
rec v4_14 v2_12)
else (
gd (inb v4 256) <|
if (s0.2.1 9 (v4).toNatClampNeg) = 0 then (
nm (v2 + (0 : Int32)) fun v2_18 =>
nm (v4 + (1 : Int32)) fun v4_20 =>
rec v4_20 v2_18)
else (
bd (J6_bitCount (v3 ^^^ v4)) fun r22 =>
if r22 = (2 : Int32) then (
nm (v2 + (1 : Int32)) fun v2_29 =>
nm (v4 + (1 : Int32)) fun v4_31 =>
rec v4_31 v2_29)
else (
nm (v2 + (0 : Int32)) fun v2_25 =>
nm (v4 + (1 : Int32)) fun v4_27 =>
rec v4_27 v2_25))))
def X7_steps_L2 (s0 : ST) (v3 : Int32) : Nat → Int32 → Int32 → Option (Int32)
  | 0 => fun _ _ => none
  | k + 1 => X7_steps_L2_b s0 v3 (X7_steps_L2 s0 v3 k)
def X7_steps_L1_b (n : Nat) (s0 : ST)  (rec : Int32 → Int32 → Option (Int32)) (v3 : Int32) (v2 : Int32) : Option (Int32) :=
bd (X7_all s0) fun r7 =>
if r7 < v3 then (
some v2)
else (
bd (X7_steps_L2 s0 v3 n (0 : Int32) v2) fun e33 =>
nm (v3 + (1 : Int32)) fun v3_35 =>
rec v3_35 e33)
def X7_steps_L1 (n : Nat) (s0 : ST)  : Nat → Int32 → Int32 → Option (Int32)
  | 0 => fun _ _ => none
  | k + 1 => X7_steps_L1_b n s0 (X7_steps_L1 n s0 k)
def X7_steps (n : Nat) (s0 : ST) (v1 : Int32) : Option (Int32 × ST) :=
bd (X7_isSide v1) fun r1 =>
if r1 = 0 then (
some ((-1 : Int32), s0))
else (
bd (X7_lay n s0 v1) fun s5 =>
bd (X7_steps_L1 n s5 n (0 : Int32) (0 : Int32)) fun e37 =>
some (e37, s5))
def X7_less (n : Nat) (s0 : ST) (v1 : Int32) (v2 : Int32) (v3 : Int32) (v4 : Int32) : Option (Int32 × ST) :=
bd (X7_isSide v1) fun r1 =>
if r1 = 0 then (
some ((-1 : Int32), s0))
else (
bd (X7_isSet s0 v2) fun r5 =>
if r5 = 0 then (
some ((-2 : Int32), s0))
else (
bd (X7_isSet s0 v3) fun r8 =>
if r8 = 0 then (
some ((-2 : Int32), s0))
else (
bd (X7_isSet s0 v4) fun r11 =>
if r11 = 0 then (
some ((-2 : Int32), s0))
else (
if (v2 &&& v3) = 0 then (
if (v4 &&& (v2 ||| v3)) = 0 then (
bd (X7_lay n s0 v1) fun s16 =>
gd (inb (v4 ||| v3) 256) <|
gd (inb v3 256) <|
some (((s16.2.1 10 ((v4 ||| v3)).toNatClampNeg) - (s16.2.1 10 (v3).toNatClampNeg)), s16))
else (
some ((-2 : Int32), s0)))
else (
some ((-2 : Int32), s0))))))
def X7_weightOf_L1_b (s0 : ST) (v1 : Int32) (rec : Int32 → Int32 → Option (Int32)) (v3 : Int32) (v2 : Int32) : Option (Int32) :=
if (s0.1 0) ≤ v3 then (
some v2)
else (
bd (X7_has v1 v3) fun r2 =>
if r2 = 0 then (
nm (v2 + (0 : Int32)) fun v2_5 =>
nm (v3 + (1 : Int32)) fun v3_7 =>
rec v3_7 v2_5)
else (
gd (inb v3 8) <|
nm (v2 + (s0.2.1 1 (v3).toNatClampNeg)) fun v2_10 =>
nm (v3 + (1 : Int32)) fun v3_12 =>
rec v3_12 v2_10))
def X7_weightOf_L1 (s0 : ST) (v1 : Int32) : Nat → Int32 → Int32 → Option (Int32)
  | 0 => fun _ _ => none
  | k + 1 => X7_weightOf_L1_b s0 v1 (X7_weightOf_L1 s0 v1 k)
def X7_weightOf (n : Nat) (s0 : ST) (v1 : Int32) : Option (Int32) :=
bd (X7_weightOf_L1 s0 v1 n (0 : Int32) (0 : Int32)) fun e14 =>
some e14
def X7_heaviest_L1_b (n : Nat) (s0 : ST)  (rec : Int32 → Int32 → Option (Int32)) (v4 : Int32) (v3 : Int32) : Option (Int32) :=
bd (X7_all s0) fun r10 =>
if r10 < v4 then (
some v3)
else (
gd (inb v4 256) <|
if (s0.2.1 9 (v4).toNatClampNeg) = 0 then (
nm (v4 + (1 : Int32)) fun v4_14 =>
rec v4_14 v3)
else (
if v3 < 0 then (
nm (v4 + (1 : Int32)) fun v4_17 =>
rec v4_17 v4)
else (
bd (X7_weightOf n s0 v4) fun r20 =>
bd (X7_weightOf n s0 v3) fun r22 =>
if r20 ≤ r22 then (
nm (v4 + (1 : Int32)) fun v4_24 =>
rec v4_24 v3)
else (
nm (v4 + (1 : Int32)) fun v4_26 =>
rec v4_26 v4))))
def X7_heaviest_L1 (n : Nat) (s0 : ST)  : Nat → Int32 → Int32 → Option (Int32)
  | 0 => fun _ _ => none
  | k + 1 => X7_heaviest_L1_b n s0 (X7_heaviest_L1 n s0 k)
def X7_heaviest (n : Nat) (s0 : ST) (v1 : Int32) (v2 : Int32) : Option (Int32 × ST) :=
bd (X7_isSide v1) fun r1 =>
if r1 = 0 then (
some ((-1 : Int32), s0))
else (
bd (X7_in v2 (0 : Int32) (1 : Int32)) fun r4 =>
if r4 = 0 then (
some ((-1 : Int32), s0))
else (
bd (X7_lay n s0 v1) fun s8 =>
bd (X7_heaviest_L1 n s8 n (0 : Int32) (-1 : Int32)) fun e28 =>
if v2 = 0 then (
some (e28, s8))
else (
bd (X7_weightOf n s8 e28) fun r32 =>
some (r32, s8))))
def X7_alike_L1_b  (rec : Int32 → ST → Option (ST)) (v3 : Int32) (s0 : ST) : Option (ST) :=
bd (X7_all s0) fun r10 =>
if r10 < v3 then (
some s0)
else (
gd (inb v3 256) <|
gd (inb v3 256) <|
nm (sA s0 11 (upd (s0.2.1 11) (v3).toNatClampNeg (s0.2.1 10 (v3).toNatClampNeg))) fun s14 =>
nm (v3 + (1 : Int32)) fun v3_16 =>
rec v3_16 s14)
def X7_alike_L1  : Nat → Int32 → ST → Option (ST)
  | 0 => fun _ _ => none
  | k + 1 => X7_alike_L1_b  (X7_alike_L1  k)
def X7_alike_L2_b (s0 : ST)  (rec : Int32 → Option ((Int32 × ST) ⊕ (Unit))) (v3 : Int32) : Option ((Int32 × ST) ⊕ (Unit)) :=
bd (X7_all s0) fun r23 =>
if r23 < v3 then (
some (Sum.inr ()))
else (
gd (inb v3 256) <|
gd (inb v3 256) <|
if (s0.2.1 10 (v3).toNatClampNeg) = (s0.2.1 11 (v3).toNatClampNeg) then (
nm (v3 + (1 : Int32)) fun v3_28 =>
rec v3_28)
else (
some (Sum.inl (v3, s0))))
def X7_alike_L2 (s0 : ST)  : Nat → Int32 → Option ((Int32 × ST) ⊕ (Unit))
  | 0 => fun _ => none
  | k + 1 => X7_alike_L2_b s0 (X7_alike_L2 s0 k)
def X7_alike (n : Nat) (s0 : ST) (v1 : Int32) (v2 : Int32) : Option (Int32 × ST) :=
bd (X7_isSide v1) fun r1 =>
if r1 = 0 then (
some ((-1 : Int32), s0))
else (
bd (X7_isSide v2) fun r4 =>
if r4 = 0 then (
some ((-1 : Int32), s0))
else (
bd (X7_lay n s0 v1) fun s8 =>
bd (X7_alike_L1 n (0 : Int32) s8) fun e18 =>
bd (X7_lay n e18 v2) fun s21 =>
bd (X7_alike_L2 s21 n (0 : Int32)) fun e30 =>
sm e30 (fun rv => some rv) fun e32 =>
some ((-5 : Int32), s21)))
def X7_cut (n : Nat) (s0 : ST) (v1 : Int32) : Option (Int32 × ST) :=
bd (X7_isSet s0 v1) fun r2 =>
if r2 = 0 then (
some ((-2 : Int32), s0))
else (
bd (X7_layCuts n s0) fun s5 =>
bd (X7_cutOf n s5 v1) fun r7 =>
some (r7, s5))
def X7_reach_L2_b (s0 : ST)  (rec : Int32 → Int32 → Option (Int32)) (v4 : Int32) (v2 : Int32) : Option (Int32) :=
if (s0.1 0) ≤ v4 then (
some v2)
else (
bd (X7_has v2 v4) fun r6 =>
if r6 = 0 then (
nm (v2 ||| (0 : Int32)) fun v2_9 =>
nm (v4 + (1 : Int32)) fun v4_11 =>
rec v4_11 v2_9)
else (
gd (inb v4 8) <|
nm (v2 ||| (s0.2.1 0 (v4).toNatClampNeg)) fun v2_14 =>
nm (v4 + (1 : Int32)) fun v4_16 =>
rec v4_16 v2_14))
def X7_reach_L2 (s0 : ST)  : Nat → Int32 → Int32 → Option (Int32)
  | 0 => fun _ _ => none
  | k + 1 => X7_reach_L2_b s0 (X7_reach_L2 s0 k)
def X7_reach_L1_b (n : Nat) (s0 : ST)  (rec : Int32 → Int32 → Option (Int32)) (v3 : Int32) (v2 : Int32) : Option (Int32) :=
if v2 = v3 then (
some v2)
else (
bd (X7_reach_L2 s0 n (0 : Int32) v2) fun e18 =>
rec v2 e18)
def X7_reach_L1 (n : Nat) (s0 : ST)  : Nat → Int32 → Int32 → Option (Int32)
  | 0 => fun _ _ => none
  | k + 1 => X7_reach_L1_b n s0 (X7_reach_L1 n s0 k)
def X7_reach (n : Nat) (s0 : ST) (v1 : Int32) : Option (Int32) :=
bd (X7_isSet s0 v1) fun r2 =>
if r2 = 0 then (
some (-2 : Int32))
else (
bd (X7_reach_L1 n s0 n (0 : Int32) v1) fun e20 =>
some e20)
def X7_canHave_L1_b (n : Nat) (s0 : ST) (v1 : Int32) (v2 : Int32) (rec : Int32 → Option ((Int32) ⊕ (Unit))) (v3 : Int32) : Option ((Int32) ⊕ (Unit)) :=
bd (X7_all s0) fun r2 =>
if r2 < v3 then (
some (Sum.inr ()))
else (
if (v3 &&& (v1 ^^^ (-1 : Int32))) = 0 then (
bd (X7_meeting n s0 v3 v2) fun r8 =>
bd (J6_bitCount v3) fun r9 =>
if r9 ≤ r8 then (
nm (v3 + (1 : Int32)) fun v3_12 =>
rec v3_12)
else (
some (Sum.inl (0 : Int32))))
else (
nm (v3 + (1 : Int32)) fun v3_5 =>
rec v3_5))
def X7_canHave_L1 (n : Nat) (s0 : ST) (v1 : Int32) (v2 : Int32) : Nat → Int32 → Option ((Int32) ⊕ (Unit))
  | 0 => fun _ => none
  | k + 1 => X7_canHave_L1_b n s0 v1 v2 (X7_canHave_L1 n s0 v1 v2 k)
def X7_canHave (n : Nat) (s0 : ST) (v1 : Int32) (v2 : Int32) : Option (Int32) :=
bd (X7_canHave_L1 n s0 v1 v2 n (0 : Int32)) fun e14 =>
sm e14 (fun rv => some rv) fun e16 =>
some (1 : Int32)
def X7_partners_L2_b (n : Nat) (s0 : ST) (v4 : Int32) (v5 : Int32) (v3 : Int32) (rec : Int32 → Option (Int32)) (v6 : Int32) : Option (Int32) :=
bd (X7_has v3 v6) fun r13 =>
if r13 = 0 then (
gd (inb v6 8) <|
bd (X7_has (s0.2.1 2 (v6).toNatClampNeg) v5) fun r19 =>
if r19 = 0 then (
nm (v6 + (1 : Int32)) fun v6_22 =>
rec v6_22)
else (
bd (X7_canHave n s0 v4 (v3 ||| ((1 : Int32) <<< (v6 &&& 31)))) fun r25 =>
if r25 = 0 then (
nm (v6 + (1 : Int32)) fun v6_27 =>
rec v6_27)
else (
some v6)))
else (
nm (v6 + (1 : Int32)) fun v6_16 =>
rec v6_16)
def X7_partners_L2 (n : Nat) (s0 : ST) (v4 : Int32) (v5 : Int32) (v3 : Int32) : Nat → Int32 → Option (Int32)
  | 0 => fun _ => none
  | k + 1 => X7_partners_L2_b n s0 v4 v5 v3 (X7_partners_L2 n s0 v4 v5 v3 k)
def X7_partners_L1_b (n : Nat) (s0 : ST) (v1 : Int32) (rec : Int32 → Int32 → Int32 → Int32 → Option (Int32)) (v5 : Int32) (v4 : Int32) (v3 : Int32) (v2 : Int32) : Option (Int32) :=
if (s0.1 0) ≤ v5 then (
some v2)
else (
bd (X7_has v1 v5) fun r8 =>
if r8 = 0 then (
nm (v5 + (1 : Int32)) fun v5_37 =>
rec v5_37 v4 v3 v2)
else (
nm (v4 &&& (((1 : Int32) <<< (v5 &&& 31)) ^^^ (-1 : Int32))) fun v4_11 =>
bd (X7_partners_L2 n s0 v4_11 v5 v3 n (0 : Int32)) fun e29 =>
nm (v3 ||| ((1 : Int32) <<< (e29 &&& 31))) fun v3_31 =>
nm ((((10 : Int32) * v2) + e29) + (1 : Int32)) fun v2_33 =>
nm (v5 + (1 : Int32)) fun v5_35 =>
rec v5_35 v4_11 v3_31 v2_33))
def X7_partners_L1 (n : Nat) (s0 : ST) (v1 : Int32) : Nat → Int32 → Int32 → Int32 → Int32 → Option (Int32)
  | 0 => fun _ _ _ _ => none
  | k + 1 => X7_partners_L1_b n s0 v1 (X7_partners_L1 n s0 v1 k)
def X7_partners (n : Nat) (s0 : ST) (v1 : Int32) : Option (Int32) :=
bd (X7_isSet s0 v1) fun r2 =>
if r2 = 0 then (
some (-2 : Int32))
else (
bd (X7_canHave n s0 v1 (0 : Int32)) fun r5 =>
if r5 = 0 then (
some (-5 : Int32))
else (
bd (X7_partners_L1 n s0 v1 n (0 : Int32) v1 (0 : Int32) (0 : Int32)) fun e39 =>
some e39))
def X7_turned_L1_b  (rec : Int32 → ST → Option (ST)) (v1 : Int32) (s0 : ST) : Option (ST) :=
if (s0.1 0) ≤ v1 then (
some s0)
else (
bd (X7_has (s0.1 1) v1) fun r4 =>
if r4 = 0 then (
gd (inb v1 8) <|
gd (inb (s0.1 2) 8) <|
nm (sA s0 2 (upd (s0.2.1 2) ((s0.1 2)).toNatClampNeg (((1 : Int32) <<< (v1 &&& 31)) ||| (s0.2.1 0 (v1).toNatClampNeg)))) fun s11 =>
nm (sI s11 2 ((s11.1 2) + (1 : Int32))) fun s13 =>
nm (v1 + (1 : Int32)) fun v1_15 =>
rec v1_15 s13)
else (
nm (v1 + (1 : Int32)) fun v1_7 =>
rec v1_7 s0))
def X7_turned_L1  : Nat → Int32 → ST → Option (ST)
  | 0 => fun _ _ => none
  | k + 1 => X7_turned_L1_b  (X7_turned_L1  k)
def X7_turned (n : Nat) (s0 : ST)  : Option (Int32 × ST) :=
nm (sI s0 2 (0 : Int32)) fun s1 =>
bd (X7_turned_L1 n (0 : Int32) s1) fun e17 =>
some ((e17.1 2), e17)
def X7_canTake_L2_b (s0 : ST) (v3 : Int32) (rec : Int32 → Int32 → Option (Int32)) (v5 : Int32) (v4 : Int32) : Option (Int32) :=
if (s0.1 2) ≤ v5 then (
some v4)
else (
bd (X7_has v3 v5) fun r3 =>
if r3 = 0 then (
nm (v4 ||| (0 : Int32)) fun v4_6 =>
nm (v5 + (1 : Int32)) fun v5_8 =>
rec v5_8 v4_6)
else (
gd (inb v5 8) <|
nm (v4 ||| (s0.2.1 2 (v5).toNatClampNeg)) fun v4_11 =>
nm (v5 + (1 : Int32)) fun v5_13 =>
rec v5_13 v4_11))
def X7_canTake_L2 (s0 : ST) (v3 : Int32) : Nat → Int32 → Int32 → Option (Int32)
  | 0 => fun _ _ => none
  | k + 1 => X7_canTake_L2_b s0 v3 (X7_canTake_L2 s0 v3 k)
def X7_canTake_L1_b (n : Nat) (s0 : ST) (v1 : Int32) (v2 : Int32) (rec : Int32 → Option ((Int32) ⊕ (Unit))) (v3 : Int32) : Option ((Int32) ⊕ (Unit)) :=
if ((1 : Int32) <<< ((s0.1 2) &&& 31)) ≤ v3 then (
some (Sum.inr ()))
else (
bd (X7_canTake_L2 s0 v3 n (0 : Int32) (0 : Int32)) fun e15 =>
if ((v3 >>> (v1 &&& 31)) <<< (v1 &&& 31)) = v3 then (
bd (J6_bitCount (e15 &&& (v2 ^^^ (-1 : Int32)))) fun r20 =>
bd (J6_bitCount v3) fun r22 =>
if r22 ≤ r20 then (
nm (v3 + (1 : Int32)) fun v3_25 =>
rec v3_25)
else (
some (Sum.inl (0 : Int32))))
else (
nm (v3 + (1 : Int32)) fun v3_18 =>
rec v3_18))
def X7_canTake_L1 (n : Nat) (s0 : ST) (v1 : Int32) (v2 : Int32) : Nat → Int32 → Option ((Int32) ⊕ (Unit))
  | 0 => fun _ => none
  | k + 1 => X7_canTake_L1_b n s0 v1 v2 (X7_canTake_L1 n s0 v1 v2 k)
def X7_canTake (n : Nat) (s0 : ST) (v1 : Int32) (v2 : Int32) : Option (Int32) :=
bd (X7_canTake_L1 n s0 v1 v2 n (0 : Int32)) fun e27 =>
sm e27 (fun rv => some rv) fun e29 =>
some (1 : Int32)
def X7_strict_L2_b (n : Nat) (s0 : ST) (v2 : Int32) (v1 : Int32) (rec : Int32 → Option (Int32)) (v3 : Int32) : Option (Int32) :=
gd (inb v2 8) <|
bd (X7_has (s0.2.1 2 (v2).toNatClampNeg) v3) fun r6 =>
if r6 = 0 then (
nm (v3 + (1 : Int32)) fun v3_9 =>
rec v3_9)
else (
bd (X7_has v1 v3) fun r11 =>
if r11 = 0 then (
bd (X7_canTake n s0 (v2 + (1 : Int32)) (v1 ||| ((1 : Int32) <<< (v3 &&& 31)))) fun r17 =>
if r17 = 0 then (
nm (v3 + (1 : Int32)) fun v3_19 =>
rec v3_19)
else (
some v3))
else (
nm (v3 + (1 : Int32)) fun v3_14 =>
rec v3_14))
def X7_strict_L2 (n : Nat) (s0 : ST) (v2 : Int32) (v1 : Int32) : Nat → Int32 → Option (Int32)
  | 0 => fun _ => none
  | k + 1 => X7_strict_L2_b n s0 v2 v1 (X7_strict_L2 n s0 v2 v1 k)
def X7_strict_L1_b (n : Nat)  (rec : Int32 → Int32 → ST → Option (Int32 × ST)) (v2 : Int32) (v1 : Int32) (s0 : ST) : Option (Int32 × ST) :=
if (s0.1 2) ≤ v2 then (
some (v1, s0))
else (
bd (X7_strict_L2 n s0 v2 v1 n (0 : Int32)) fun e21 =>
nm (v1 ||| ((1 : Int32) <<< (e21 &&& 31))) fun v1_23 =>
gd (inb v2 8) <|
nm (sA s0 12 (upd (s0.2.1 12) (v2).toNatClampNeg e21)) fun s26 =>
nm (v2 + (1 : Int32)) fun v2_28 =>
rec v2_28 v1_23 s26)
def X7_strict_L1 (n : Nat)  : Nat → Int32 → Int32 → ST → Option (Int32 × ST)
  | 0 => fun _ _ _ => none
  | k + 1 => X7_strict_L1_b n (X7_strict_L1 n k)
def X7_strict_L3_b  (rec : Int32 → ST → Option (ST)) (v2 : Int32) (s0 : ST) : Option (ST) :=
if (8 : Int32) ≤ v2 then (
some s0)
else (
gd (inb v2 8) <|
nm (sA s0 0 (upd (s0.2.1 0) (v2).toNatClampNeg (0 : Int32))) fun s34 =>
nm (v2 + (1 : Int32)) fun v2_36 =>
rec v2_36 s34)
def X7_strict_L3  : Nat → Int32 → ST → Option (ST)
  | 0 => fun _ _ => none
  | k + 1 => X7_strict_L3_b  (X7_strict_L3  k)
def X7_strict_L4_b  (rec : Int32 → Int32 → ST → Option (Int32 × ST)) (v3 : Int32) (v2 : Int32) (s0 : ST) : Option (Int32 × ST) :=
if (s0.1 2) ≤ v3 then (
some (v2, s0))
else (
gd (inb v3 8) <|
gd (inb v3 8) <|
gd (inb v3 8) <|
gd (inb (s0.2.1 12 (v3).toNatClampNeg) 8) <|
nm (sA s0 0 (upd (s0.2.1 0) ((s0.2.1 12 (v3).toNatClampNeg)).toNatClampNeg ((s0.2.1 2 (v3).toNatClampNeg) &&& (((1 : Int32) <<< ((s0.2.1 12 (v3).toNatClampNeg) &&& 31)) ^^^ (-1 : Int32))))) fun s45 =>
gd (inb v3 8) <|
gd (inb (s45.2.1 12 (v3).toNatClampNeg) 8) <|
bd (J6_bitCount (s45.2.1 0 ((s45.2.1 12 (v3).toNatClampNeg)).toNatClampNeg)) fun r49 =>
nm (v2 + r49) fun v2_51 =>
nm (v3 + (1 : Int32)) fun v3_53 =>
rec v3_53 v2_51 s45)
def X7_strict_L4  : Nat → Int32 → Int32 → ST → Option (Int32 × ST)
  | 0 => fun _ _ _ => none
  | k + 1 => X7_strict_L4_b  (X7_strict_L4  k)
def X7_strict (n : Nat) (s0 : ST)  : Option (Int32 × ST) :=
bd (X7_canTake n s0 (0 : Int32) (0 : Int32)) fun r2 =>
if r2 = 0 then (
some ((-3 : Int32), s0))
else (
bd (X7_strict_L1 n n (0 : Int32) (0 : Int32) s0) fun e30 =>
bd (X7_strict_L3 n (0 : Int32) e30.2) fun e38 =>
bd (X7_strict_L4 n (0 : Int32) (0 : Int32) e38) fun e55 =>
bd (X7_all e55.2) fun r58 =>
nm (sI e55.2 1 (r58 &&& (e30.1 ^^^ (-1 : Int32)))) fun s59 =>
some (e55.1, s59))
def X7_keepsBases_L1_b  (rec : Int32 → ST → Option (ST)) (v1 : Int32) (s0 : ST) : Option (ST) :=
bd (X7_all s0) fun r4 =>
if r4 < v1 then (
some s0)
else (
gd (inb v1 256) <|
gd (inb v1 256) <|
gd (bz (s0.2.1 9 (v1).toNatClampNeg)) <|
nm (sA s0 13 (upd (s0.2.1 13) (v1).toNatClampNeg (s0.2.1 9 (v1).toNatClampNeg))) fun s8 =>
nm (v1 + (1 : Int32)) fun v1_11 =>
rec v1_11 s8)
def X7_keepsBases_L1  : Nat → Int32 → ST → Option (ST)
  | 0 => fun _ _ => none
  | k + 1 => X7_keepsBases_L1_b  (X7_keepsBases_L1  k)
def X7_keepsBases (n : Nat) (s0 : ST)  : Option (ST) :=
bd (X7_lay n s0 (1 : Int32)) fun s2 =>
bd (X7_keepsBases_L1 n (0 : Int32) s2) fun e13 =>
some e13
def X7_areBases_L1_b (s0 : ST)  (rec : Int32 → Option ((Int32 × ST) ⊕ (Unit))) (v1 : Int32) : Option ((Int32 × ST) ⊕ (Unit)) :=
bd (X7_all s0) fun r4 =>
if r4 < v1 then (
some (Sum.inr ()))
else (
gd (inb v1 256) <|
gd (inb v1 256) <|
if (s0.2.1 9 (v1).toNatClampNeg) = (s0.2.1 13 (v1).toNatClampNeg) then (
nm (v1 + (1 : Int32)) fun v1_9 =>
rec v1_9)
else (
some (Sum.inl ((0 : Int32), s0))))
def X7_areBases_L1 (s0 : ST)  : Nat → Int32 → Option ((Int32 × ST) ⊕ (Unit))
  | 0 => fun _ => none
  | k + 1 => X7_areBases_L1_b s0 (X7_areBases_L1 s0 k)
def X7_areBases (n : Nat) (s0 : ST)  : Option (Int32 × ST) :=
bd (X7_lay n s0 (1 : Int32)) fun s2 =>
bd (X7_areBases_L1 s2 n (0 : Int32)) fun e11 =>
sm e11 (fun rv => some rv) fun e13 =>
some ((1 : Int32), s2)
def X7_changing_L1_b (n : Nat) (v3 : Int32) (v1 : Int32) (v2 : Int32) (rec : Int32 → Int32 → ST → Option (Int32 × ST)) (v5 : Int32) (v4 : Int32) (s0 : ST) : Option (Int32 × ST) :=
if (s0.1 0) ≤ v5 then (
some (v4, s0))
else (
gd (inb v1 8) <|
nm (sA s0 2 (upd (s0.2.1 2) (v1).toNatClampNeg (v3 ^^^ ((1 : Int32) <<< (v5 &&& 31))))) fun s8 =>
bd (X7_has v2 v5) fun r10 =>
if r10 = 0 then (
nm (v4 ||| (0 : Int32)) fun v4_13 =>
nm (v5 + (1 : Int32)) fun v5_15 =>
rec v5_15 v4_13 s8)
else (
bd2 (X7_areBases n s8) fun r19 s18 =>
if r19 = 0 then (
nm (v4 ||| (0 : Int32)) fun v4_21 =>
nm (v5 + (1 : Int32)) fun v5_23 =>
rec v5_23 v4_21 s18)
else (
nm (v4 ||| ((1 : Int32) <<< (v5 &&& 31))) fun v4_25 =>
nm (v5 + (1 : Int32)) fun v5_27 =>
rec v5_27 v4_25 s18)))
def X7_changing_L1 (n : Nat) (v3 : Int32) (v1 : Int32) (v2 : Int32) : Nat → Int32 → Int32 → ST → Option (Int32 × ST)
  | 0 => fun _ _ _ => none
  | k + 1 => X7_changing_L1_b n v3 v1 v2 (X7_changing_L1 n v3 v1 v2 k)
def X7_changing (n : Nat) (s0 : ST) (v1 : Int32) (v2 : Int32) : Option (Int32 × ST) :=
bd (X7_keepsBases n s0) fun s2 =>
gd (inb v1 8) <|
nm (s2.2.1 2 (v1).toNatClampNeg) fun v3_4 =>
bd (X7_changing_L1 n v3_4 v1 v2 n (0 : Int32) (0 : Int32) s2) fun e29 =>
gd (inb v1 8) <|
nm (sA e29.2 2 (upd (e29.2.2.1 2) (v1).toNatClampNeg v3_4)) fun s32 =>
some (e29.1, s32)
def X7_spare (n : Nat) (s0 : ST) (v1 : Int32) : Option (Int32 × ST) :=
bd (X7_isNumber s0 v1) fun r2 =>
if r2 = 0 then (
some ((-1 : Int32), s0))
else (
gd (inb v1 8) <|
bd2 (X7_changing n s0 v1 (s0.2.1 2 (v1).toNatClampNeg)) fun r7 s6 =>
some (r7, s6))
def X7_room (n : Nat) (s0 : ST) (v1 : Int32) : Option (Int32 × ST) :=
bd (X7_isNumber s0 v1) fun r2 =>
if r2 = 0 then (
some ((-1 : Int32), s0))
else (
bd (X7_all s0) fun r5 =>
gd (inb v1 8) <|
bd2 (X7_changing n s0 v1 (r5 &&& ((s0.2.1 2 (v1).toNatClampNeg) ^^^ (-1 : Int32)))) fun r9 s8 =>
some (r9, s8))
def X7_idle_L1_b (n : Nat)  (rec : Int32 → Int32 → ST → Option (Int32 × ST)) (v2 : Int32) (v1 : Int32) (s0 : ST) : Option (Int32 × ST) :=
if (s0.1 2) ≤ v2 then (
some (v1, s0))
else (
gd (inb v2 8) <|
nm (s0.2.1 2 (v2).toNatClampNeg) fun v3_5 =>
gd (inb v2 8) <|
nm (sA s0 2 (upd (s0.2.1 2) (v2).toNatClampNeg (0 : Int32))) fun s8 =>
bd2 (X7_areBases n s8) fun r12 s11 =>
if r12 = 0 then (
nm (v1 ||| (0 : Int32)) fun v1_14 =>
gd (inb v2 8) <|
nm (sA s11 2 (upd (s11.2.1 2) (v2).toNatClampNeg v3_5)) fun s17 =>
nm (v2 + (1 : Int32)) fun v2_19 =>
rec v2_19 v1_14 s17)
else (
nm (v1 ||| ((1 : Int32) <<< (v2 &&& 31))) fun v1_21 =>
gd (inb v2 8) <|
nm (sA s11 2 (upd (s11.2.1 2) (v2).toNatClampNeg v3_5)) fun s24 =>
nm (v2 + (1 : Int32)) fun v2_26 =>
rec v2_26 v1_21 s24))
def X7_idle_L1 (n : Nat)  : Nat → Int32 → Int32 → ST → Option (Int32 × ST)
  | 0 => fun _ _ _ => none
  | k + 1 => X7_idle_L1_b n (X7_idle_L1 n k)
def X7_idle (n : Nat) (s0 : ST)  : Option (Int32 × ST) :=
bd (X7_keepsBases n s0) fun s2 =>
bd (X7_idle_L1 n n (0 : Int32) (0 : Int32) s2) fun e28 =>
some (e28.1, e28.2)
def X7_small_L2_b (n : Nat) (v2 : Int32) (rec : Int32 → Int32 → ST → Option (Int32 × ST)) (v3 : Int32) (v1 : Int32) (s0 : ST) : Option (Int32 × ST) :=
if (s0.1 0) ≤ v3 then (
some (v1, s0))
else (
gd (inb v2 8) <|
bd (X7_has (s0.2.1 2 (v2).toNatClampNeg) v3) fun r6 =>
if r6 = 0 then (
nm (v3 + (1 : Int32)) fun v3_27 =>
rec v3_27 v1 s0)
else (
gd (inb v2 8) <|
gd (inb v2 8) <|
nm (sA s0 2 (upd (s0.2.1 2) (v2).toNatClampNeg ((s0.2.1 2 (v2).toNatClampNeg) &&& (((1 : Int32) <<< (v3 &&& 31)) ^^^ (-1 : Int32))))) fun s11 =>
bd2 (X7_areBases n s11) fun r15 s14 =>
if r15 = 0 then (
gd (inb v2 8) <|
gd (inb v2 8) <|
nm (sA s14 2 (upd (s14.2.1 2) (v2).toNatClampNeg ((s14.2.1 2 (v2).toNatClampNeg) ||| ((1 : Int32) <<< (v3 &&& 31))))) fun s19 =>
nm (v3 + (1 : Int32)) fun v3_21 =>
rec v3_21 v1 s19)
else (
nm (v1 + (1 : Int32)) fun v1_23 =>
nm (v3 + (1 : Int32)) fun v3_25 =>
rec v3_25 v1_23 s14)))
def X7_small_L2 (n : Nat) (v2 : Int32) : Nat → Int32 → Int32 → ST → Option (Int32 × ST)
  | 0 => fun _ _ _ => none
  | k + 1 => X7_small_L2_b n v2 (X7_small_L2 n v2 k)
def X7_small_L1_b (n : Nat)  (rec : Int32 → Int32 → ST → Option (Int32 × ST)) (v2 : Int32) (v1 : Int32) (s0 : ST) : Option (Int32 × ST) :=
if (s0.1 2) ≤ v2 then (
some (v1, s0))
else (
bd (X7_small_L2 n v2 n (0 : Int32) v1 s0) fun e29 =>
nm (v2 + (1 : Int32)) fun v2_31 =>
rec v2_31 e29.1 e29.2)
def X7_small_L1 (n : Nat)  : Nat → Int32 → Int32 → ST → Option (Int32 × ST)
  | 0 => fun _ _ _ => none
  | k + 1 => X7_small_L1_b n (X7_small_L1 n k)
def X7_small_L3_b (n : Nat)  (rec : Int32 → ST → Option (ST)) (v2 : Int32) (s0 : ST) : Option (ST) :=
if (s0.1 2) ≤ v2 then (
some s0)
else (
gd (inb v2 8) <|
if (s0.2.1 2 (v2).toNatClampNeg) = 0 then (
bd (X7_goes n s0 v2) fun s41 =>
rec v2 s41)
else (
nm (v2 + (1 : Int32)) fun v2_38 =>
rec v2_38 s0))
def X7_small_L3 (n : Nat)  : Nat → Int32 → ST → Option (ST)
  | 0 => fun _ _ => none
  | k + 1 => X7_small_L3_b n (X7_small_L3 n k)
def X7_small (n : Nat) (s0 : ST)  : Option (Int32 × ST) :=
bd (X7_keepsBases n s0) fun s2 =>
bd (X7_small_L1 n n (0 : Int32) (0 : Int32) s2) fun e33 =>
bd (X7_small_L3 n n (0 : Int32) e33.2) fun e42 =>
some (e33.1, e42)
def X7_isRow (v0 : Int32) : Option (Int32) :=
bd (X7_in v0 (0 : Int32) (2 : Int32)) fun r1 =>
gd (bz r1) <|
some r1
def X7_row_L1_b (v1 : Int32) (v2 : Int32) (rec : Int32 → ST → Option (ST)) (v3 : Int32) (s0 : ST) : Option (ST) :=
if v2 ≤ v3 then (
some s0)
else (
gd (inb (((40 : Int32) * v1) + v3) 120) <|
nm (sA s0 4 (upd (s0.2.1 4) ((((40 : Int32) * v1) + v3)).toNatClampNeg (0 : Int32))) fun s11 =>
nm (v3 + (1 : Int32)) fun v3_13 =>
rec v3_13 s11)
def X7_row_L1 (v1 : Int32) (v2 : Int32) : Nat → Int32 → ST → Option (ST)
  | 0 => fun _ _ => none
  | k + 1 => X7_row_L1_b v1 v2 (X7_row_L1 v1 v2 k)
def X7_row (n : Nat) (s0 : ST) (v1 : Int32) (v2 : Int32) : Option (Int32 × ST) :=
bd (X7_isRow v1) fun r1 =>
if r1 = 0 then (
some ((-1 : Int32), s0))
else (
if v2 ≤ (40 : Int32) then (
if 0 ≤ v2 then (
gd (inb v1 3) <|
nm (sA s0 3 (upd (s0.2.1 3) (v1).toNatClampNeg v2)) fun s7 =>
bd (X7_row_L1 v1 v2 n (0 : Int32) s7) fun e15 =>
some ((1 : Int32), e15))
else (
some ((-14 : Int32), s0)))
else (
some ((-2 : Int32), s0)))
def X7_lose (s0 : ST) (v1 : Int32) : Option (Int32 × ST) :=
bd (X7_isRow v1) fun r1 =>
if r1 = 0 then (
some ((-1 : Int32), s0))
else (
gd (inb v1 3) <|
if 0 ≤ (s0.2.1 3 (v1).toNatClampNeg) then (
gd (inb v1 3) <|
nm (s0.2.1 3 (v1).toNatClampNeg) fun v2_7 =>
gd (inb v1 3) <|
nm (sA s0 3 (upd (s0.2.1 3) (v1).toNatClampNeg (-1 : Int32))) fun s10 =>
some (v2_7, s10))
else (
some ((-11 : Int32), s0)))
def X7_put (s0 : ST) (v1 : Int32) (v2 : Int32) (v3 : Int32) : Option (Int32 × ST) :=
bd (X7_isRow v1) fun r1 =>
if r1 = 0 then (
some ((-1 : Int32), s0))
else (
gd (inb v1 3) <|
if 0 ≤ (s0.2.1 3 (v1).toNatClampNeg) then (
gd (inb v1 3) <|
bd (X7_in v2 (0 : Int32) ((s0.2.1 3 (v1).toNatClampNeg) - (1 : Int32))) fun r7 =>
if r7 = 0 then (
some ((-13 : Int32), s0))
else (
gd (inb (((40 : Int32) * v1) + v2) 120) <|
nm (sA s0 4 (upd (s0.2.1 4) ((((40 : Int32) * v1) + v2)).toNatClampNeg v3)) fun s11 =>
some ((1 : Int32), s11)))
else (
some ((-11 : Int32), s0)))
def X7_get (s0 : ST) (v1 : Int32) (v2 : Int32) : Option (Int64) :=
bd (X7_isRow v1) fun r1 =>
if r1 = 0 then (
some (-9223372036854775808 : Int64))
else (
gd (inb v1 3) <|
bd (X7_in v2 (0 : Int32) ((s0.2.1 3 (v1).toNatClampNeg) - (1 : Int32))) fun r5 =>
if r5 = 0 then (
some (-9223372036854775808 : Int64))
else (
gd (inb (((40 : Int32) * v1) + v2) 120) <|
some ((s0.2.1 4 ((((40 : Int32) * v1) + v2)).toNatClampNeg)).toInt64))
def X7_copy_L1_b (v1 : Int32) (v2 : Int32) (v5 : Int32) (rec : Int32 → ST → Option (ST)) (v6 : Int32) (s0 : ST) : Option (ST) :=
if v5 ≤ v6 then (
some s0)
else (
gd (inb ((((40 : Int32) * v1) + v2) + v6) 120) <|
gd (inb v6 40) <|
nm (sA s0 5 (upd (s0.2.1 5) (v6).toNatClampNeg (s0.2.1 4 (((((40 : Int32) * v1) + v2) + v6)).toNatClampNeg))) fun s21 =>
nm (v6 + (1 : Int32)) fun v6_23 =>
rec v6_23 s21)
def X7_copy_L1 (v1 : Int32) (v2 : Int32) (v5 : Int32) : Nat → Int32 → ST → Option (ST)
  | 0 => fun _ _ => none
  | k + 1 => X7_copy_L1_b v1 v2 v5 (X7_copy_L1 v1 v2 v5 k)
def X7_copy_L2_b (v3 : Int32) (v4 : Int32) (v5 : Int32) (rec : Int32 → ST → Option (ST)) (v6 : Int32) (s0 : ST) : Option (ST) :=
if v5 ≤ v6 then (
some s0)
else (
gd (inb v6 40) <|
gd (inb ((((40 : Int32) * v3) + v4) + v6) 120) <|
nm (sA s0 4 (upd (s0.2.1 4) (((((40 : Int32) * v3) + v4) + v6)).toNatClampNeg (s0.2.1 5 (v6).toNatClampNeg))) fun s30 =>
nm (v6 + (1 : Int32)) fun v6_32 =>
rec v6_32 s30)
def X7_copy_L2 (v3 : Int32) (v4 : Int32) (v5 : Int32) : Nat → Int32 → ST → Option (ST)
  | 0 => fun _ _ => none
  | k + 1 => X7_copy_L2_b v3 v4 v5 (X7_copy_L2 v3 v4 v5 k)
def X7_copy (n : Nat) (s0 : ST) (v1 : Int32) (v2 : Int32) (v3 : Int32) (v4 : Int32) (v5 : Int32) : Option (Int32 × ST) :=
bd (X7_isRow v1) fun r1 =>
if r1 = 0 then (
some ((-1 : Int32), s0))
else (
bd (X7_isRow v3) fun r4 =>
if r4 = 0 then (
some ((-1 : Int32), s0))
else (
gd (inb v1 3) <|
if (s0.2.1 3 (v1).toNatClampNeg) < 0 then (
some ((-11 : Int32), s0))
else (
gd (inb v3 3) <|
if 0 ≤ (s0.2.1 3 (v3).toNatClampNeg) then (
if v5 < 0 then (
some ((-13 : Int32), s0))
else (
if v2 < 0 then (
some ((-13 : Int32), s0))
else (
if v4 < 0 then (
some ((-13 : Int32), s0))
else (
gd (inb v1 3) <|
if 0 < (lg_cmp ((v2).toInt64 + (v5).toInt64) ((s0.2.1 3 (v1).toNatClampNeg)).toInt64) then (
some ((-13 : Int32), s0))
else (
gd (inb v3 3) <|
if (lg_cmp ((v4).toInt64 + (v5).toInt64) ((s0.2.1 3 (v3).toNatClampNeg)).toInt64) ≤ 0 then (
bd (X7_copy_L1 v1 v2 v5 n (0 : Int32) s0) fun e25 =>
bd (X7_copy_L2 v3 v4 v5 n (0 : Int32) e25) fun e34 =>
some (v5, e34))
else (
some ((-13 : Int32), s0)))))))
else (
some ((-11 : Int32), s0)))))
def X7_film_L1_b (v1 : Int32) (v3 : Int32) (rec : Int32 → ST → Option (ST)) (v5 : Int32) (s0 : ST) : Option (ST) :=
gd (inb v1 3) <|
if (s0.2.1 3 (v1).toNatClampNeg) ≤ v5 then (
some s0)
else (
gd (inb (v3 + v5) 256) <|
gd (inb (((40 : Int32) * v1) + v5) 120) <|
nm (sA s0 4 (upd (s0.2.1 4) ((((40 : Int32) * v1) + v5)).toNatClampNeg (s0.2.1 10 ((v3 + v5)).toNatClampNeg))) fun s26 =>
nm (v5 + (1 : Int32)) fun v5_28 =>
rec v5_28 s26)
def X7_film_L1 (v1 : Int32) (v3 : Int32) : Nat → Int32 → ST → Option (ST)
  | 0 => fun _ _ => none
  | k + 1 => X7_film_L1_b v1 v3 (X7_film_L1 v1 v3 k)
def X7_film (n : Nat) (s0 : ST) (v1 : Int32) (v2 : Int32) (v3 : Int32) (v4 : Int32) : Option (Int32 × ST) :=
bd (X7_isRow v1) fun r1 =>
if r1 = 0 then (
some ((-1 : Int32), s0))
else (
bd (X7_isSide v2) fun r4 =>
if r4 = 0 then (
some ((-1 : Int32), s0))
else (
bd (X7_isSet s0 v3) fun r8 =>
if r8 = 0 then (
some ((-2 : Int32), s0))
else (
bd (X7_in v4 (0 : Int32) (40 : Int32)) fun r10 =>
if r10 = 0 then (
some ((-2 : Int32), s0))
else (
bd (X7_lay n s0 v2) fun s14 =>
bd (X7_all s14) fun r16 =>
nm (if ((r16 - v3) + (1 : Int32)) < v4 then ((r16 - v3) + (1 : Int32)) else v4) fun r17 =>
gd (inb v1 3) <|
nm (sA s14 3 (upd (s14.2.1 3) (v1).toNatClampNeg r17)) fun s20 =>
bd (X7_film_L1 v1 v3 n (0 : Int32) s20) fun e30 =>
gd (inb v1 3) <|
some ((e30.2.1 3 (v1).toNatClampNeg), e30)))))
def X7_judge_L1_b (s0 : ST) (v1 : Int32) (v3 : Int32) (rec : Int32 → Option ((Int32 × ST) ⊕ (Unit))) (v4 : Int32) : Option ((Int32 × ST) ⊕ (Unit)) :=
gd (inb v1 3) <|
if (s0.2.1 3 (v1).toNatClampNeg) ≤ v4 then (
some (Sum.inr ()))
else (
bd (X7_all s0) fun r17 =>
if r17 < (v3 + v4) then (
some (Sum.inl (v4, s0)))
else (
gd (inb (((40 : Int32) * v1) + v4) 120) <|
gd (inb (v3 + v4) 256) <|
if (s0.2.1 4 ((((40 : Int32) * v1) + v4)).toNatClampNeg) = (s0.2.1 10 ((v3 + v4)).toNatClampNeg) then (
nm (v4 + (1 : Int32)) fun v4_22 =>
rec v4_22)
else (
some (Sum.inl (v4, s0)))))
def X7_judge_L1 (s0 : ST) (v1 : Int32) (v3 : Int32) : Nat → Int32 → Option ((Int32 × ST) ⊕ (Unit))
  | 0 => fun _ => none
  | k + 1 => X7_judge_L1_b s0 v1 v3 (X7_judge_L1 s0 v1 v3 k)
def X7_judge (n : Nat) (s0 : ST) (v1 : Int32) (v2 : Int32) (v3 : Int32) : Option (Int32 × ST) :=
bd (X7_isRow v1) fun r1 =>
if r1 = 0 then (
some ((-1 : Int32), s0))
else (
bd (X7_isSide v2) fun r4 =>
if r4 = 0 then (
some ((-1 : Int32), s0))
else (
bd (X7_isSet s0 v3) fun r8 =>
if r8 = 0 then (
some ((-2 : Int32), s0))
else (
gd (inb v1 3) <|
if 0 ≤ (s0.2.1 3 (v1).toNatClampNeg) then (
bd (X7_lay n s0 v2) fun s13 =>
bd (X7_judge_L1 s13 v1 v3 n (0 : Int32)) fun e24 =>
sm e24 (fun rv => some rv) fun e26 =>
gd (inb v1 3) <|
some (((100 : Int32) + (s13.2.1 3 (v1).toNatClampNeg)), s13))
else (
some ((-11 : Int32), s0)))))
def X7_feed (s0 : ST) (v1 : Int32) : Option (Int32 × ST) :=
bd (X7_in v1 (32 : Int32) (126 : Int32)) fun r1 =>
if r1 = 0 then (
some ((-2 : Int32), s0))
else (
if (s0.1 3) = (120 : Int32) then (
some ((-4 : Int32), s0))
else (
gd (inb (s0.1 3) 120) <|
nm (sA s0 6 (upd (s0.2.1 6) ((s0.1 3)).toNatClampNeg v1)) fun s6 =>
nm (sI s6 3 ((s6.1 3) + (1 : Int32))) fun s8 =>
some ((s8.1 3), s8)))
def X7_wipe (s0 : ST)  : Option (Int32 × ST) :=
nm (s0.1 3) fun v1_1 =>
nm (sI s0 3 (0 : Int32)) fun s3 =>
some (v1_1, s3)
def X7_wordOf (v0 : Int32) : Option (Nat) :=
if v0 = (0 : Int32) then (
some 0)
else (
if v0 = (1 : Int32) then (
some 1)
else (
if v0 = (2 : Int32) then (
some 2)
else (
if v0 = (3 : Int32) then (
some 3)
else (
if v0 = (4 : Int32) then (
some 4)
else (
some 5)))))
def X7_isWordFrom_L1_b (s0 : ST) (v1 : Int32) (v2 : Nat) (rec : Int32 → Option ((Int32) ⊕ (Unit))) (v3 : Int32) : Option ((Int32) ⊕ (Unit)) :=
bd (txlen v2) fun r4 =>
if r4 ≤ v3 then (
some (Sum.inr ()))
else (
gd (inb (v1 + v3) 120) <|
bd (txat v2 v3) fun r8 =>
if (s0.2.1 6 ((v1 + v3)).toNatClampNeg) = r8 then (
nm (v3 + (1 : Int32)) fun v3_11 =>
rec v3_11)
else (
some (Sum.inl (0 : Int32))))
def X7_isWordFrom_L1 (s0 : ST) (v1 : Int32) (v2 : Nat) : Nat → Int32 → Option ((Int32) ⊕ (Unit))
  | 0 => fun _ => none
  | k + 1 => X7_isWordFrom_L1_b s0 v1 v2 (X7_isWordFrom_L1 s0 v1 v2 k)
def X7_isWordFrom (n : Nat) (s0 : ST) (v1 : Int32) (v2 : Nat) : Option (Int32) :=
bd (txlen v2) fun r1 =>
if ((s0.1 4) - v1) = r1 then (
bd (X7_isWordFrom_L1 s0 v1 v2 n (0 : Int32)) fun e13 =>
sm e13 (fun rv => some rv) fun e15 =>
some (1 : Int32))
else (
some (0 : Int32))
def X7_readWord_L1_b  (rec : ST → Option (ST)) (s0 : ST) : Option (ST) :=
if (s0.1 3) ≤ (s0.1 4) then (
some s0)
else (
gd (inb (s0.1 4) 120) <|
bd (X7_in (s0.2.1 6 ((s0.1 4)).toNatClampNeg) (97 : Int32) (122 : Int32)) fun r5 =>
if r5 = 0 then (
some s0)
else (
nm (sI s0 4 ((s0.1 4) + (1 : Int32))) fun s8 =>
rec s8))
def X7_readWord_L1  : Nat → ST → Option (ST)
  | 0 => fun _ => none
  | k + 1 => X7_readWord_L1_b  (X7_readWord_L1  k)
def X7_readWord_L2_b (n : Nat) (v1 : Int32) (rec : ST → Option ((Int32 × ST) ⊕ (ST))) (s0 : ST) : Option ((Int32 × ST) ⊕ (ST)) :=
if (5 : Int32) < (s0.1 6) then (
some (Sum.inr s0))
else (
bd (X7_wordOf (s0.1 6)) fun r15 =>
bd (X7_isWordFrom n s0 v1 r15) fun r18 =>
if r18 = 0 then (
nm (sI s0 6 ((s0.1 6) + (1 : Int32))) fun s20 =>
rec s20)
else (
some (Sum.inl ((1 : Int32), s0))))
def X7_readWord_L2 (n : Nat) (v1 : Int32) : Nat → ST → Option ((Int32 × ST) ⊕ (ST))
  | 0 => fun _ => none
  | k + 1 => X7_readWord_L2_b n v1 (X7_readWord_L2 n v1 k)
def X7_readWord (n : Nat) (s0 : ST)  : Option (Int32 × ST) :=
nm (s0.1 4) fun v1_1 =>
bd (X7_readWord_L1 n s0) fun e10 =>
nm (sI e10 6 (0 : Int32)) fun s12 =>
bd (X7_readWord_L2 n v1_1 n s12) fun e22 =>
sm e22 (fun rv => some rv) fun e24 =>
nm (sI e24 5 v1_1) fun s26 =>
some ((0 : Int32), s26)
def X7_isHere (s0 : ST) (v1 : Int32) : Option (Int32) :=
if (s0.1 3) ≤ (s0.1 4) then (
some (0 : Int32))
else (
gd (inb (s0.1 4) 120) <|
if (s0.2.1 6 ((s0.1 4)).toNatClampNeg) = v1 then (
some (1 : Int32))
else (
some (0 : Int32)))
def X7_isFigure (s0 : ST)  : Option (Int32) :=
if (s0.1 3) ≤ (s0.1 4) then (
some (0 : Int32))
else (
gd (inb (s0.1 4) 120) <|
bd (X7_in (s0.2.1 6 ((s0.1 4)).toNatClampNeg) (48 : Int32) (57 : Int32)) fun r3 =>
if r3 = 0 then (
some (0 : Int32))
else (
some (1 : Int32)))
def X7_readFigure (s0 : ST)  : Option (Int32 × ST) :=
bd (X7_isHere s0 (32 : Int32)) fun r2 =>
if r2 = 0 then (
nm (sI s0 5 (s0.1 4)) fun s16 =>
some ((0 : Int32), s16))
else (
nm (sI s0 4 ((s0.1 4) + (1 : Int32))) fun s4 =>
bd (X7_isFigure s4) fun r7 =>
if r7 = 0 then (
nm (sI s4 5 (s4.1 4)) fun s14 =>
some ((0 : Int32), s14))
else (
gd (inb (s4.1 4) 120) <|
nm (sI s4 7 ((s4.2.1 6 ((s4.1 4)).toNatClampNeg) - (48 : Int32))) fun s10 =>
nm (sI s10 4 ((s10.1 4) + (1 : Int32))) fun s12 =>
some ((1 : Int32), s12)))
def X7_readSet_L1_b  (rec : ST → Option ((Int32 × ST) ⊕ (ST))) (s0 : ST) : Option ((Int32 × ST) ⊕ (ST)) :=
bd (X7_isHere s0 (32 : Int32)) fun r4 =>
if r4 = 0 then (
some (Sum.inr s0))
else (
bd2 (X7_readFigure s0) fun r8 s7 =>
if r8 = 0 then (
some (Sum.inl ((0 : Int32), s7)))
else (
nm (sI s7 10 ((s7.1 10) ||| ((1 : Int32) <<< ((s7.1 7) &&& 31)))) fun s10 =>
rec s10))
def X7_readSet_L1  : Nat → ST → Option ((Int32 × ST) ⊕ (ST))
  | 0 => fun _ => none
  | k + 1 => X7_readSet_L1_b  (X7_readSet_L1  k)
def X7_readSet (n : Nat) (s0 : ST)  : Option (Int32 × ST) :=
nm (sI s0 10 (0 : Int32)) fun s1 =>
bd (X7_readSet_L1 n s1) fun e12 =>
sm e12 (fun rv => some rv) fun e14 =>
some ((1 : Int32), e14)
def X7_readStatement (n : Nat) (s0 : ST)  : Option (Int32 × ST) :=
bd2 (X7_readWord n s0) fun r3 s2 =>
if r3 = 0 then (
some ((0 : Int32), s2))
else (
if (s2.1 6) = (4 : Int32) then (
bd2 (X7_readSet n s2) fun r31 s30 =>
gd (bz r31) <|
some (r31, s30))
else (
bd2 (X7_readFigure s2) fun r8 s7 =>
if r8 = 0 then (
some ((0 : Int32), s7))
else (
nm (sI s7 8 (s7.1 7)) fun s10 =>
if (s10.1 6) = 0 then (
some ((1 : Int32), s10))
else (
if (s10.1 6) = (3 : Int32) then (
some ((1 : Int32), s10))
else (
bd2 (X7_readFigure s10) fun r16 s15 =>
if r16 = 0 then (
some ((0 : Int32), s15))
else (
nm (sI s15 9 (s15.1 7)) fun s18 =>
if (s18.1 6) = (5 : Int32) then (
bd (X7_isFigure s18) fun r22 =>
if r22 = 0 then (
some ((1 : Int32), s18))
else (
gd (inb (s18.1 4) 120) <|
nm (sI s18 9 ((((10 : Int32) * (s18.1 9)) + (s18.2.1 6 ((s18.1 4)).toNatClampNeg)) - (48 : Int32))) fun s25 =>
nm (sI s25 4 ((s25.1 4) + (1 : Int32))) fun s27 =>
some ((1 : Int32), s27)))
else (
some ((1 : Int32), s18))))))))
def X7_isDone (n : Nat) (s0 : ST)  : Option (Int32 × ST) :=
if (s0.1 6) = (0 : Int32) then (
bd2 (X7_posts n s0 (s0.1 8)) fun r4 s3 =>
if r4 < 0 then (
some ((0 : Int32), s3))
else (
some ((1 : Int32), s3)))
else (
if (s0.1 6) = (1 : Int32) then (
bd2 (X7_road s0 (s0.1 8) (s0.1 9) (1 : Int32)) fun r9 s8 =>
if r9 < 0 then (
some ((0 : Int32), s8))
else (
some ((1 : Int32), s8)))
else (
if (s0.1 6) = (2 : Int32) then (
bd2 (X7_road s0 (s0.1 8) (s0.1 9) (0 : Int32)) fun r14 s13 =>
if r14 < 0 then (
some ((0 : Int32), s13))
else (
some ((1 : Int32), s13)))
else (
if (s0.1 6) = (3 : Int32) then (
bd (X7_isPost s0 (s0.1 8)) fun r18 =>
if r18 = 0 then (
some ((0 : Int32), s0))
else (
bd2 (X7_targets s0 ((s0.1 1) ||| ((1 : Int32) <<< ((s0.1 8) &&& 31)))) fun r22 s21 =>
if r22 < 0 then (
some ((0 : Int32), s21))
else (
some ((1 : Int32), s21))))
else (
if (s0.1 6) = (4 : Int32) then (
bd2 (X7_add s0 (s0.1 10)) fun r27 s26 =>
if r27 < 0 then (
some ((0 : Int32), s26))
else (
some ((1 : Int32), s26)))
else (
bd2 (X7_weigh s0 (s0.1 8) (s0.1 9)) fun r31 s30 =>
if r31 < 0 then (
some ((0 : Int32), s30))
else (
some ((1 : Int32), s30)))))))
def X7_reads_L1_b (n : Nat) (v1 : Int32) (rec : Int32 → ST → Option ((Int32 × ST) ⊕ (ST))) (v2 : Int32) (s0 : ST) : Option ((Int32 × ST) ⊕ (ST)) :=
bd2 (X7_readStatement n s0) fun r5 s4 =>
if r5 = 0 then (
some (Sum.inr s4))
else (
if v1 = 0 then (
nm (v2 + (1 : Int32)) fun v2_8 =>
if (s4.1 4) = (s4.1 3) then (
some (Sum.inl (v2_8, s4)))
else (
bd (X7_isHere s4 (59 : Int32)) fun r12 =>
if r12 = 0 then (
some (Sum.inl (((-100 : Int32) - (s4.1 4)), s4)))
else (
nm (sI s4 4 ((s4.1 4) + (1 : Int32))) fun s14 =>
rec v2_8 s14)))
else (
bd2 (X7_isDone n s4) fun r18 s17 =>
if r18 = 0 then (
some (Sum.inl (((-300 : Int32) - v2), s17)))
else (
nm (v2 + (1 : Int32)) fun v2_20 =>
if (s17.1 4) = (s17.1 3) then (
some (Sum.inl (v2_20, s17)))
else (
bd (X7_isHere s17 (59 : Int32)) fun r24 =>
if r24 = 0 then (
some (Sum.inl (((-100 : Int32) - (s17.1 4)), s17)))
else (
nm (sI s17 4 ((s17.1 4) + (1 : Int32))) fun s26 =>
rec v2_20 s26)))))
def X7_reads_L1 (n : Nat) (v1 : Int32) : Nat → Int32 → ST → Option ((Int32 × ST) ⊕ (ST))
  | 0 => fun _ _ => none
  | k + 1 => X7_reads_L1_b n v1 (X7_reads_L1 n v1 k)
def X7_reads (n : Nat) (s0 : ST) (v1 : Int32) : Option (Int32 × ST) :=
nm (sI s0 4 (0 : Int32)) fun s1 =>
bd (X7_reads_L1 n v1 n (0 : Int32) s1) fun e28 =>
sm e28 (fun rv => some rv) fun e30 =>
some (((-100 : Int32) - (e30.1 5)), e30)
def X7_read (n : Nat) (s0 : ST)  : Option (Int32 × ST) :=
bd2 (X7_reads n s0 (0 : Int32)) fun r3 s2 =>
if r3 < 0 then (
nm (sI s2 3 (0 : Int32)) fun s5 =>
some (r3, s5))
else (
bd2 (X7_reads n s2 (1 : Int32)) fun r9 s8 =>
nm (sI s8 3 (0 : Int32)) fun s10 =>
some (r9, s10))
def X7_writes (s0 : ST) (v1 : Int32) : Option (ST) :=
gd (inb (s0.1 11) 900) <|
nm (sA s0 14 (upd (s0.2.1 14) ((s0.1 11)).toNatClampNeg v1)) fun s2 =>
nm (sI s2 11 ((s2.1 11) + (1 : Int32))) fun s4 =>
some s4
def X7_writesWord_L1_b (v1 : Int32) (rec : Int32 → ST → Option (ST)) (v2 : Int32) (s0 : ST) : Option (ST) :=
bd (X7_wordOf v1) fun r2 =>
bd (txlen r2) fun r4 =>
if r4 ≤ v2 then (
some s0)
else (
bd (X7_wordOf v1) fun r7 =>
bd (txat r7 v2) fun r9 =>
bd (X7_writes s0 r9) fun s12 =>
nm (v2 + (1 : Int32)) fun v2_13 =>
rec v2_13 s12)
def X7_writesWord_L1 (v1 : Int32) : Nat → Int32 → ST → Option (ST)
  | 0 => fun _ _ => none
  | k + 1 => X7_writesWord_L1_b v1 (X7_writesWord_L1 v1 k)
def X7_writesWord (n : Nat) (s0 : ST) (v1 : Int32) : Option (ST) :=
if (s0.1 11) ≤ 0 then (
bd (X7_writesWord_L1 v1 n (0 : Int32) s0) fun e15 =>
some e15)
else (
bd (X7_writes s0 (59 : Int32)) fun s18 =>
bd (X7_writesWord_L1 v1 n (0 : Int32) s18) fun e19 =>
some e19)
def X7_writesNumber (s0 : ST) (v1 : Int32) : Option (ST) :=
bd (X7_writes s0 (32 : Int32)) fun s2 =>
if v1 < (10 : Int32) then (
bd (X7_writes s2 ((48 : Int32) + (v1 - v1 / (10 : Int32) * (10 : Int32)))) fun s5 =>
some s5)
else (
bd (X7_writes s2 ((48 : Int32) + (v1 / (10 : Int32)))) fun s7 =>
bd (X7_writes s7 ((48 : Int32) + (v1 - v1 / (10 : Int32) * (10 : Int32)))) fun s9 =>
some s9)
def X7_spells_L2_b (n : Nat) (v1 : Int32) (rec : Int32 → ST → Option (ST)) (v2 : Int32) (s0 : ST) : Option (ST) :=
if (s0.1 0) ≤ v2 then (
some s0)
else (
gd (inb v1 8) <|
bd (X7_has (s0.2.1 0 (v1).toNatClampNeg) v2) fun r10 =>
if r10 = 0 then (
nm (v2 + (1 : Int32)) fun v2_13 =>
rec v2_13 s0)
else (
bd (X7_writesWord n s0 (1 : Int32)) fun s16 =>
bd (X7_writesNumber s16 v1) fun s18 =>
bd (X7_writesNumber s18 v2) fun s20 =>
nm (v2 + (1 : Int32)) fun v2_21 =>
rec v2_21 s20))
def X7_spells_L2 (n : Nat) (v1 : Int32) : Nat → Int32 → ST → Option (ST)
  | 0 => fun _ _ => none
  | k + 1 => X7_spells_L2_b n v1 (X7_spells_L2 n v1 k)
def X7_spells_L1_b (n : Nat)  (rec : Int32 → ST → Option (ST)) (v1 : Int32) (s0 : ST) : Option (ST) :=
if (s0.1 0) ≤ v1 then (
some s0)
else (
bd (X7_spells_L2 n v1 n (0 : Int32) s0) fun e23 =>
nm (v1 + (1 : Int32)) fun v1_25 =>
rec v1_25 e23)
def X7_spells_L1 (n : Nat)  : Nat → Int32 → ST → Option (ST)
  | 0 => fun _ _ => none
  | k + 1 => X7_spells_L1_b n (X7_spells_L1 n k)
def X7_spells_L3_b (n : Nat)  (rec : Int32 → ST → Option (ST)) (v1 : Int32) (s0 : ST) : Option (ST) :=
if (s0.1 0) ≤ v1 then (
some s0)
else (
bd (X7_has (s0.1 1) v1) fun r30 =>
if r30 = 0 then (
nm (v1 + (1 : Int32)) fun v1_33 =>
rec v1_33 s0)
else (
bd (X7_writesWord n s0 (3 : Int32)) fun s36 =>
bd (X7_writesNumber s36 v1) fun s38 =>
nm (v1 + (1 : Int32)) fun v1_39 =>
rec v1_39 s38))
def X7_spells_L3 (n : Nat)  : Nat → Int32 → ST → Option (ST)
  | 0 => fun _ _ => none
  | k + 1 => X7_spells_L3_b n (X7_spells_L3 n k)
def X7_spells_L5_b (v1 : Int32) (rec : Int32 → ST → Option (ST)) (v2 : Int32) (s0 : ST) : Option (ST) :=
if (s0.1 0) ≤ v2 then (
some s0)
else (
gd (inb v1 8) <|
bd (X7_has (s0.2.1 2 (v1).toNatClampNeg) v2) fun r48 =>
if r48 = 0 then (
nm (v2 + (1 : Int32)) fun v2_51 =>
rec v2_51 s0)
else (
bd (X7_writesNumber s0 v2) fun s54 =>
nm (v2 + (1 : Int32)) fun v2_55 =>
rec v2_55 s54))
def X7_spells_L5 (v1 : Int32) : Nat → Int32 → ST → Option (ST)
  | 0 => fun _ _ => none
  | k + 1 => X7_spells_L5_b v1 (X7_spells_L5 v1 k)
def X7_spells_L4_b (n : Nat)  (rec : Int32 → ST → Option (ST)) (v1 : Int32) (s0 : ST) : Option (ST) :=
if (s0.1 2) ≤ v1 then (
some s0)
else (
bd (X7_writesWord n s0 (4 : Int32)) fun s45 =>
bd (X7_spells_L5 v1 n (0 : Int32) s45) fun e57 =>
nm (v1 + (1 : Int32)) fun v1_59 =>
rec v1_59 e57)
def X7_spells_L4 (n : Nat)  : Nat → Int32 → ST → Option (ST)
  | 0 => fun _ _ => none
  | k + 1 => X7_spells_L4_b n (X7_spells_L4 n k)
def X7_spells_L6_b (n : Nat)  (rec : Int32 → ST → Option (ST)) (v1 : Int32) (s0 : ST) : Option (ST) :=
if (s0.1 0) ≤ v1 then (
some s0)
else (
gd (inb v1 8) <|
if (s0.2.1 1 (v1).toNatClampNeg) ≤ 0 then (
nm (v1 + (1 : Int32)) fun v1_66 =>
rec v1_66 s0)
else (
bd (X7_writesWord n s0 (5 : Int32)) fun s69 =>
bd (X7_writesNumber s69 v1) fun s71 =>
gd (inb v1 8) <|
bd (X7_writesNumber s71 (s71.2.1 1 (v1).toNatClampNeg)) fun s74 =>
nm (v1 + (1 : Int32)) fun v1_75 =>
rec v1_75 s74))
def X7_spells_L6 (n : Nat)  : Nat → Int32 → ST → Option (ST)
  | 0 => fun _ _ => none
  | k + 1 => X7_spells_L6_b n (X7_spells_L6 n k)
def X7_spells (n : Nat) (s0 : ST)  : Option (ST) :=
nm (sI s0 11 (0 : Int32)) fun s1 =>
bd (X7_writesWord n s1 (0 : Int32)) fun s4 =>
bd (X7_writesNumber s4 (s4.1 0)) fun s6 =>
bd (X7_spells_L1 n n (0 : Int32) s6) fun e27 =>
bd (X7_spells_L3 n n (0 : Int32) e27) fun e41 =>
bd (X7_spells_L4 n n (0 : Int32) e41) fun e61 =>
bd (X7_spells_L6 n n (0 : Int32) e61) fun e77 =>
some e77
def X7_spelled (n : Nat) (s0 : ST) (v1 : Int32) : Option (Int32 × ST) :=
bd (X7_spells n s0) fun s2 =>
if v1 = (-1 : Int32) then (
some ((s2.1 11), s2))
else (
bd (X7_in v1 (0 : Int32) ((s2.1 11) - (1 : Int32))) fun r4 =>
if r4 = 0 then (
some ((-1 : Int32), s2))
else (
gd (inb v1 900) <|
some ((s2.2.1 14 (v1).toNatClampNeg), s2)))
def X7_image_L1_b  (rec : Int32 → ST → Option (ST)) (v1 : Int32) (s0 : ST) : Option (ST) :=
if (8 : Int32) ≤ v1 then (
some s0)
else (
gd (inb v1 8) <|
gd (inb v1 27) <|
nm (sA s0 15 (upd (s0.2.1 15) (v1).toNatClampNeg (s0.2.1 0 (v1).toNatClampNeg))) fun s6 =>
gd (inb v1 8) <|
gd (inb ((8 : Int32) + v1) 27) <|
nm (sA s6 15 (upd (s6.2.1 15) (((8 : Int32) + v1)).toNatClampNeg (s6.2.1 1 (v1).toNatClampNeg))) fun s10 =>
gd (inb v1 8) <|
gd (inb ((16 : Int32) + v1) 27) <|
nm (sA s10 15 (upd (s10.2.1 15) (((16 : Int32) + v1)).toNatClampNeg (s10.2.1 2 (v1).toNatClampNeg))) fun s14 =>
nm (v1 + (1 : Int32)) fun v1_16 =>
rec v1_16 s14)
def X7_image_L1  : Nat → Int32 → ST → Option (ST)
  | 0 => fun _ _ => none
  | k + 1 => X7_image_L1_b  (X7_image_L1  k)
def X7_image (n : Nat) (s0 : ST)  : Option (Int32 × ST) :=
nm (sI s0 12 (1 : Int32)) fun s1 =>
bd (X7_image_L1 n (0 : Int32) s1) fun e18 =>
gd (inb (24 : Int32) 27) <|
nm (sA e18 15 (upd (e18.2.1 15) ((24 : Int32)).toNatClampNeg (e18.1 0))) fun s21 =>
gd (inb (25 : Int32) 27) <|
nm (sA s21 15 (upd (s21.2.1 15) ((25 : Int32)).toNatClampNeg (s21.1 1))) fun s24 =>
gd (inb (26 : Int32) 27) <|
nm (sA s24 15 (upd (s24.2.1 15) ((26 : Int32)).toNatClampNeg (s24.1 2))) fun s27 =>
some ((s27.1 0), s27)
def X7_undo_L1_b  (rec : Int32 → ST → Option (ST)) (v1 : Int32) (s0 : ST) : Option (ST) :=
if (8 : Int32) ≤ v1 then (
some s0)
else (
gd (inb v1 27) <|
gd (inb v1 8) <|
nm (sA s0 0 (upd (s0.2.1 0) (v1).toNatClampNeg (s0.2.1 15 (v1).toNatClampNeg))) fun s5 =>
gd (inb ((8 : Int32) + v1) 27) <|
gd (inb v1 8) <|
nm (sA s5 1 (upd (s5.2.1 1) (v1).toNatClampNeg (s5.2.1 15 (((8 : Int32) + v1)).toNatClampNeg))) fun s9 =>
gd (inb ((16 : Int32) + v1) 27) <|
gd (inb v1 8) <|
nm (sA s9 2 (upd (s9.2.1 2) (v1).toNatClampNeg (s9.2.1 15 (((16 : Int32) + v1)).toNatClampNeg))) fun s13 =>
nm (v1 + (1 : Int32)) fun v1_15 =>
rec v1_15 s13)
def X7_undo_L1  : Nat → Int32 → ST → Option (ST)
  | 0 => fun _ _ => none
  | k + 1 => X7_undo_L1_b  (X7_undo_L1  k)
def X7_undo (n : Nat) (s0 : ST)  : Option (Int32 × ST) :=
if (s0.1 12) = 0 then (
some ((-3 : Int32), s0))
else (
bd (X7_undo_L1 n (0 : Int32) s0) fun e17 =>
gd (inb (24 : Int32) 27) <|
nm (sI e17 0 (e17.2.1 15 ((24 : Int32)).toNatClampNeg)) fun s20 =>
gd (inb (25 : Int32) 27) <|
nm (sI s20 1 (s20.2.1 15 ((25 : Int32)).toNatClampNeg)) fun s23 =>
gd (inb (26 : Int32) 27) <|
nm (sI s23 2 (s23.2.1 15 ((26 : Int32)).toNatClampNeg)) fun s26 =>
some ((s26.1 0), s26))
def X7_count_L1_b (s0 : ST)  (rec : Int32 → Int32 → Option (Int32)) (v3 : Int32) (v2 : Int32) : Option (Int32) :=
if (s0.1 0) ≤ v3 then (
some v2)
else (
gd (inb v3 8) <|
bd (J6_bitCount (s0.2.1 0 (v3).toNatClampNeg)) fun r5 =>
nm (v2 + r5) fun v2_7 =>
nm (v3 + (1 : Int32)) fun v3_9 =>
rec v3_9 v2_7)
def X7_count_L1 (s0 : ST)  : Nat → Int32 → Int32 → Option (Int32)
  | 0 => fun _ _ => none
  | k + 1 => X7_count_L1_b s0 (X7_count_L1 s0 k)
def X7_count_L2_b (s0 : ST)  (rec : Int32 → Int32 → Option (Int32)) (v3 : Int32) (v2 : Int32) : Option (Int32) :=
if (3 : Int32) ≤ v3 then (
some v2)
else (
gd (inb v3 3) <|
if (s0.2.1 3 (v3).toNatClampNeg) < 0 then (
nm (v2 + (0 : Int32)) fun v2_20 =>
nm (v3 + (1 : Int32)) fun v3_22 =>
rec v3_22 v2_20)
else (
nm (v2 + (1 : Int32)) fun v2_24 =>
nm (v3 + (1 : Int32)) fun v3_26 =>
rec v3_26 v2_24))
def X7_count_L2 (s0 : ST)  : Nat → Int32 → Int32 → Option (Int32)
  | 0 => fun _ _ => none
  | k + 1 => X7_count_L2_b s0 (X7_count_L2 s0 k)
def X7_count (n : Nat) (s0 : ST) (v1 : Int32) : Option (Int32) :=
if v1 = (0 : Int32) then (
some (s0.1 0))
else (
if v1 = (1 : Int32) then (
bd (X7_count_L1 s0 n (0 : Int32) (0 : Int32)) fun e11 =>
some e11)
else (
if v1 = (2 : Int32) then (
some (s0.1 1))
else (
if v1 = (3 : Int32) then (
some (s0.1 2))
else (
if v1 = (4 : Int32) then (
some (s0.1 3))
else (
if v1 = (5 : Int32) then (
bd (X7_count_L2 s0 n (0 : Int32) (0 : Int32)) fun e28 =>
some e28)
else (
if v1 = (6 : Int32) then (
bd (X7_all s0) fun r32 =>
bd (X7_weightOf n s0 r32) fun r34 =>
some r34)
else (
some (-1 : Int32))))))))
