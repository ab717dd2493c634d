set_option maxRecDepth 20000 in
def fJ6_bitCount (v0 : Int32) : Option Int32 :=
some ((((((((v0 - ((zushr v0 (1 : Int32)) &&& (1431655765 : Int32))) &&& (858993459 : Int32)) + ((zushr (v0 - ((zushr v0 (1 : Int32)) &&& (1431655765 : Int32))) (2 : Int32)) &&& (858993459 : Int32))) + (zushr (((v0 - ((zushr v0 (1 : Int32)) &&& (1431655765 : Int32))) &&& (858993459 : Int32)) + ((zushr (v0 - ((zushr v0 (1 : Int32)) &&& (1431655765 : Int32))) (2 : Int32)) &&& (858993459 : Int32))) (4 : Int32))) &&& (252645135 : Int32)) + (zushr (((((v0 - ((zushr v0 (1 : Int32)) &&& (1431655765 : Int32))) &&& (858993459 : Int32)) + ((zushr (v0 - ((zushr v0 (1 : Int32)) &&& (1431655765 : Int32))) (2 : Int32)) &&& (858993459 : Int32))) + (zushr (((v0 - ((zushr v0 (1 : Int32)) &&& (1431655765 : Int32))) &&& (858993459 : Int32)) + ((zushr (v0 - ((zushr v0 (1 : Int32)) &&& (1431655765 : Int32))) (2 : Int32)) &&& (858993459 : Int32))) (4 : Int32))) &&& (252645135 : Int32)) (8 : Int32))) + (zushr ((((((v0 - ((zushr v0 (1 : Int32)) &&& (1431655765 : Int32))) &&& (858993459 : Int32)) + ((zushr (v0 - ((zushr v0 (1 : Int32)) &&& (1431655765 : Int32))) (2 : Int32)) &&& (858993459 : Int32))) + (zushr (((v0 - ((zushr v0 (1 : Int32)) &&& (1431655765 : Int32))) &&& (858993459 : Int32)) + ((zushr (v0 - ((zushr v0 (1 : Int32)) &&& (1431655765 : Int32))) (2 : Int32)) &&& (858993459 : Int32))) (4 : Int32))) &&& (252645135 : Int32)) + (zushr (((((v0 - ((zushr v0 (1 : Int32)) &&& (1431655765 : Int32))) &&& (858993459 : Int32)) + ((zushr (v0 - ((zushr v0 (1 : Int32)) &&& (1431655765 : Int32))) (2 : Int32)) &&& (858993459 : Int32))) + (zushr (((v0 - ((zushr v0 (1 : Int32)) &&& (1431655765 : Int32))) &&& (858993459 : Int32)) + ((zushr (v0 - ((zushr v0 (1 : Int32)) &&& (1431655765 : Int32))) (2 : Int32)) &&& (858993459 : Int32))) (4 : Int32))) &&& (252645135 : Int32)) (8 : Int32))) (16 : Int32))) &&& (63 : Int32))
set_option maxRecDepth 20000 in
def fJ6_numberOfTrailingZeros_74 (v0 : Int32) (v1 : Int32) : Option Int32 :=
some (v1 + (zushr v0 (1 : Int32)))
set_option maxRecDepth 20000 in
def fJ6_numberOfTrailingZeros_62 (v0 : Int32) (v1 : Int32) : Option Int32 :=
if v0 ≤ (4 : Int32) then
fJ6_numberOfTrailingZeros_74 v0 v1
else
fJ6_numberOfTrailingZeros_74 (zushr v0 (2 : Int32)) (v1 + (2 : Int32))
set_option maxRecDepth 20000 in
def fJ6_numberOfTrailingZeros_49 (v0 : Int32) (v1 : Int32) : Option Int32 :=
if v0 ≤ (16 : Int32) then
fJ6_numberOfTrailingZeros_62 v0 v1
else
fJ6_numberOfTrailingZeros_62 (zushr v0 (4 : Int32)) (v1 + (4 : Int32))
set_option maxRecDepth 20000 in
def fJ6_numberOfTrailingZeros_34 (v0 : Int32) (v1 : Int32) : Option Int32 :=
if v0 ≤ (256 : Int32) then
fJ6_numberOfTrailingZeros_49 v0 v1
else
fJ6_numberOfTrailingZeros_49 (zushr v0 (8 : Int32)) (v1 + (8 : Int32))
set_option maxRecDepth 20000 in
def fJ6_numberOfTrailingZeros (v0 : Int32) : Option Int32 :=
if 0 < ((v0 ^^^ (-1 : Int32)) &&& (v0 - (1 : Int32))) then
if ((v0 ^^^ (-1 : Int32)) &&& (v0 - (1 : Int32))) ≤ (65536 : Int32) then
fJ6_numberOfTrailingZeros_34 ((v0 ^^^ (-1 : Int32)) &&& (v0 - (1 : Int32))) (1 : Int32)
else
fJ6_numberOfTrailingZeros_34 (zushr ((v0 ^^^ (-1 : Int32)) &&& (v0 - (1 : Int32))) (16 : Int32)) ((1 : Int32) + (16 : Int32))
else
some (((v0 ^^^ (-1 : Int32)) &&& (v0 - (1 : Int32))) &&& (32 : Int32))
set_option maxRecDepth 20000 in
def fJ7_fillJ_6 (a0 : Nat) (n0 : Nat) : Nat → Int64 → Int32 → Int32 → zM → Option zM
  | 0, _, _, _, _ => none
  | n + 1, v1, v3, v4, M => if v4 ≤ v3 then
some M
else
(zpJ M n0 a0 v3 v1).bind fun M1 =>
fJ7_fillJ_6 a0 n0 n v1 (v3 + (1 : Int32)) v4 M1
set_option maxRecDepth 20000 in
def fJ7_fillJ (a0 : Nat) (n0 : Nat) (v1 : Int64) (M : zM) : Option zM :=
fJ7_fillJ_6 a0 n0 zfuel v1 (0 : Int32) (Int32.ofNat n0) M
set_option maxRecDepth 20000 in
def fJ7_fillI_5 (a0 : Nat) (n0 : Nat) : Nat → Int32 → Int32 → Int32 → zM → Option zM
  | 0, _, _, _, _ => none
  | n + 1, v1, v2, v3, M => if v3 ≤ v2 then
some M
else
(zpI M n0 a0 v2 v1).bind fun M1 =>
fJ7_fillI_5 a0 n0 n v1 (v2 + (1 : Int32)) v3 M1
set_option maxRecDepth 20000 in
def fJ7_fillI (a0 : Nat) (n0 : Nat) (v1 : Int32) (M : zM) : Option zM :=
fJ7_fillI_5 a0 n0 zfuel v1 (0 : Int32) (Int32.ofNat n0) M
set_option maxRecDepth 20000 in
def f0_isIn (a0 : Nat) (v1 : Int32) (M : zM) : Option Int32 :=
if (64 : Int32) ≤ (zushr v1 (6 : Int32)) then
some (0 : Int32)
else
(zaJ M 64 a0 (zushr v1 (6 : Int32))).bind fun x1 =>
some (if (lg_cmp ((zlushr x1 (v1 &&& (63 : Int32))) &&& (1 : Int64)) (0 : Int64)) = 0 then (0 : Int32) else (1 : Int32))
set_option maxRecDepth 20000 in
def f0_mark (a0 : Nat) (v1 : Int32) (M : zM) : Option zM :=
if (64 : Int32) ≤ (zushr v1 (6 : Int32)) then
some M
else
(zaJ M 64 a0 (zushr v1 (6 : Int32))).bind fun x1 =>
(zpJ M 64 a0 (zushr v1 (6 : Int32)) (x1 ||| (zlshl (1 : Int64) (v1 &&& (63 : Int32))))).bind fun M2 =>
some M2
set_option maxRecDepth 20000 in
def f0_turn (v1 : Int32) (v2 : Int32) (M : zM) : Option zM :=
(zaI M 12 22 v1).bind fun x1 =>
(zpI M 12 22 v1 (x1 ^^^ (zshl (1 : Int32) ((6 : Int32) + v2)))).bind fun M2 =>
(zaI M2 12 23 v1).bind fun x3 =>
(zpI M2 12 23 v1 (x3 ^^^ (zshl (1 : Int32) ((6 : Int32) + v2)))).bind fun M4 =>
(zaI M4 12 22 ((6 : Int32) + v2)).bind fun x5 =>
(zpI M4 12 22 ((6 : Int32) + v2) (x5 ^^^ (zshl (1 : Int32) v1))).bind fun M6 =>
(zaI M6 12 23 ((6 : Int32) + v2)).bind fun x7 =>
(zpI M6 12 23 ((6 : Int32) + v2) (x7 ^^^ (zshl (1 : Int32) v1))).bind fun M8 =>
some M8
set_option maxRecDepth 20000 in
def f0_reached_63 (a2 : Nat) (k8 : Int32 → Int32 → Int32 → Int32 → zM → Option Int32) (v1 : Int32) (v3 : Int32) (v4 : Int32) (v5 : Int32) (v6 : Int32) (s0 : Int32) (M : zM) : Option Int32 :=
k8 v1 (v3 ||| s0) ((v4 ^^^ v6) ||| s0) (v5 + (1 : Int32)) M
set_option maxRecDepth 20000 in
def f0_reached_8 (a2 : Nat) : Nat → Int32 → Int32 → Int32 → Int32 → zM → Option Int32
  | 0, _, _, _, _, _ => none
  | n + 1, v1, v3, v4, v5, M => if (12 : Int32) ≤ v5 then
some v3
else
if v4 = 0 then
some v3
else
if v3 = v1 then
some v3
else
(fJ6_bitCount ((v4 &&& (-v4)) - (1 : Int32))).bind fun x1 =>
if (12 : Int32) ≤ x1 then
f0_reached_63 a2 (f0_reached_8 a2 n) v1 v3 v4 v5 (v4 &&& (-v4)) (0 : Int32) M
else
(zaI M 12 a2 x1).bind fun x2 =>
f0_reached_63 a2 (f0_reached_8 a2 n) v1 v3 v4 v5 (v4 &&& (-v4)) ((x2 &&& v1) &&& (v3 ^^^ (-1 : Int32))) M
set_option maxRecDepth 20000 in
def f0_reached (v0 : Int32) (v1 : Int32) (a2 : Nat) (M : zM) : Option Int32 :=
f0_reached_8 a2 zfuel v1 v0 v0 (0 : Int32) M
set_option maxRecDepth 20000 in
def f0_areTogether (v1 : Int32) (M : zM) : Option Int32 :=
(fJ6_bitCount v1).bind fun x1 =>
if x1 = (1 : Int32) then
some (1 : Int32)
else
if (v1 &&& (63 : Int32)) = 0 then
some (0 : Int32)
else
if (zushr v1 (6 : Int32)) = 0 then
some (0 : Int32)
else
(f0_reached (v1 &&& (-v1)) v1 22 M).bind fun x2 =>
if x2 = v1 then
(f0_reached (v1 &&& (-v1)) v1 23 M).bind fun x3 =>
some (if x3 = v1 then (1 : Int32) else (0 : Int32))
else
some (0 : Int32)
set_option maxRecDepth 20000 in
def f0_holdingOf (v1 : Int32) (M : zM) : Option Int32 :=
if v1 < 0 then
some (0 : Int32)
else
if (13 : Int32) ≤ v1 then
some (0 : Int32)
else
(zaI M 13 26 v1).bind fun x1 =>
some x1
set_option maxRecDepth 20000 in
def f0_markTakings_40 (k2 : Int32 → Int32 → zM → Option zM) (v1 : Int32) (v2 : Int32) (M : zM) : Option zM :=
k2 v1 (v2 + (1 : Int32)) M
set_option maxRecDepth 20000 in
def f0_markTakings_2 : Nat → Int32 → Int32 → zM → Option zM
  | 0, _, _, _ => none
  | n + 1, v1, v2, M => if (12 : Int32) ≤ v2 then
some M
else
if (v1 &&& ((zshl (1 : Int32) v2) ^^^ (-1 : Int32))) = v1 then
f0_markTakings_40 (f0_markTakings_2 n) v1 v2 M
else
(f0_isIn 24 (v1 &&& ((zshl (1 : Int32) v2) ^^^ (-1 : Int32))) M).bind fun x1 =>
if x1 = 0 then
f0_markTakings_40 (f0_markTakings_2 n) v1 v2 M
else
(f0_mark 25 (v1 &&& ((zshl (1 : Int32) v2) ^^^ (-1 : Int32))) M).bind fun M2 =>
f0_markTakings_40 (f0_markTakings_2 n) v1 v2 M2
set_option maxRecDepth 20000 in
def f0_markTakings (v1 : Int32) (M : zM) : Option zM :=
f0_markTakings_2 zfuel v1 (0 : Int32) M
set_option maxRecDepth 20000 in
def f0_leastTake_45 (k2 : Int32 → Int32 → zM → Option Int32) (v1 : Int32) (v2 : Int32) (M : zM) : Option Int32 :=
k2 v1 (v2 + (1 : Int32)) M
set_option maxRecDepth 20000 in
def f0_leastTake_2 : Nat → Int32 → Int32 → zM → Option Int32
  | 0, _, _, _ => none
  | n + 1, v1, v2, M => if (12 : Int32) ≤ v2 then
some (-1 : Int32)
else
if (v1 &&& ((zshl (1 : Int32) v2) ^^^ (-1 : Int32))) = v1 then
f0_leastTake_45 (f0_leastTake_2 n) v1 v2 M
else
(f0_isIn 24 (v1 &&& ((zshl (1 : Int32) v2) ^^^ (-1 : Int32))) M).bind fun x1 =>
if x1 = 0 then
f0_leastTake_45 (f0_leastTake_2 n) v1 v2 M
else
(f0_isIn 25 (v1 &&& ((zshl (1 : Int32) v2) ^^^ (-1 : Int32))) M).bind fun x2 =>
if x2 = 0 then
some v2
else
f0_leastTake_45 (f0_leastTake_2 n) v1 v2 M
set_option maxRecDepth 20000 in
def f0_leastTake (v1 : Int32) (M : zM) : Option Int32 :=
f0_leastTake_2 zfuel v1 (0 : Int32) M
set_option maxRecDepth 20000 in
def f1_shapeWithout_44 (a1 : Nat) (k13 : Int32 → Int64 → Int32 → Int32 → zM → Option Int64) (v2 : Int32) (v3 : Int64) (v5 : Int32) (v6 : Int32) (M : zM) : Option Int64 :=
k13 v2 v3 v5 (v6 + (-1 : Int32)) M
set_option maxRecDepth 20000 in
def f1_shapeWithout_13 (a1 : Nat) : Nat → Int32 → Int64 → Int32 → Int32 → zM → Option Int64
  | 0, _, _, _, _, _ => none
  | n + 1, v2, v3, v5, v6, M => if v6 < 0 then
some (((zlshl v3 (6 : Int32)) ||| (Int32.toInt64 (zshl (M.1 27 1) (3 : Int32)))) ||| (Int32.toInt64 v5))
else
if ((zushr v2 v6) &&& (1 : Int32)) = 0 then
(zaI M 6 28 v6).bind fun x1 =>
f1_shapeWithout_44 a1 (f1_shapeWithout_13 a1 n) v2 ((zlshl v3 (6 : Int32)) ||| (Int32.toInt64 x1)) (v5 + (1 : Int32)) v6 M
else
f1_shapeWithout_44 a1 (f1_shapeWithout_13 a1 n) v2 v3 v5 v6 M
set_option maxRecDepth 20000 in
def f1_shapeWithout (a1 : Nat) (v2 : Int32) (M : zM) : Option Int64 :=
f1_shapeWithout_13 a1 zfuel v2 (0 : Int64) (0 : Int32) ((M.1 a1 0) - (1 : Int32)) M
set_option maxRecDepth 20000 in
def f1_forgetShapes (M : zM) : Option zM :=
(fJ7_fillJ 29 1024 (0 : Int64) M).bind fun M1 =>
some M1
set_option maxRecDepth 20000 in
def f1_isNew_28 : Nat → Int64 → Int32 → Int32 → zM → Option (Int32 × zM)
  | 0, _, _, _, _ => none
  | n + 1, v1, v5, v6, M => if (1024 : Int32) ≤ v6 then
some ((0 : Int32), M)
else
(zaJ M 1024 29 v5).bind fun x1 =>
if (lg_cmp x1 v1) = 0 then
some ((0 : Int32), M)
else
(zaJ M 1024 29 v5).bind fun x2 =>
if (lg_cmp x2 (0 : Int64)) = 0 then
(zpJ M 1024 29 v5 v1).bind fun M3 =>
some ((1 : Int32), M3)
else
f1_isNew_28 n v1 ((v5 + (1 : Int32)) &&& (1023 : Int32)) (v6 + (1 : Int32)) M
set_option maxRecDepth 20000 in
def f1_isNew (v1 : Int64) (M : zM) : Option (Int32 × zM) :=
f1_isNew_28 zfuel v1 (Int64.toInt32 ((((v1 ^^^ (zlushr v1 (10 : Int32))) ^^^ (zlushr v1 (23 : Int32))) ^^^ (zlushr v1 (36 : Int32))) &&& (1023 : Int64))) (0 : Int32) M
set_option maxRecDepth 20000 in
def f2_empty (a0 : Nat) (n0 : Nat) (M : zM) : Option zM :=
(fJ7_fillJ (a0 + 1) n0 (0 : Int64) (zsi M a0 2 (0 : Int32))).bind fun M1 =>
some M1
set_option maxRecDepth 20000 in
def f2_put (a0 : Nat) (n0 : Nat) (v1 : Int32) (v2 : Int64) (v4 : Int32) (M : zM) : Option zM :=
if v1 < 0 then
some M
else
if (Int32.ofNat n0) ≤ v1 then
some M
else
(zpJ M n0 (a0 + 1) v1 v2).bind fun M1 =>
(zpI M1 n0 (a0 + 2) v1 v4).bind fun M2 =>
some M2
set_option maxRecDepth 20000 in
def f2_holds (a0 : Nat) (n0 : Nat) (v1 : Int32) (M : zM) : Option Int32 :=
if v1 < 0 then
some (0 : Int32)
else
if (Int32.ofNat n0) ≤ v1 then
some (0 : Int32)
else
(zaJ M n0 (a0 + 1) v1).bind fun x1 =>
some (if (lg_cmp x1 (0 : Int64)) = 0 then (0 : Int32) else (1 : Int32))
set_option maxRecDepth 20000 in
def f3_clear (M : zM) : Option zM :=
some (zsi M 9 1 (0 : Int32))
set_option maxRecDepth 20000 in
def f3_add (v1 : Int64) (M : zM) : Option zM :=
if (8 : Int32) ≤ (M.1 9 1) then
some M
else
(zpJ M 8 10 (M.1 9 1) v1).bind fun M1 =>
some (zsi M1 9 1 ((M1.1 9 1) + (1 : Int32)))
set_option maxRecDepth 20000 in
def f3_tell (v1 : Int64) (M : zM) : Option zM :=
(f3_add v1 (zsi M 9 1 (0 : Int32))).bind fun M1 =>
some M1
set_option maxRecDepth 20000 in
def f3_tell_ (v1 : Int64) (v3 : Int64) (M : zM) : Option zM :=
(f3_add v1 (zsi M 9 1 (0 : Int32))).bind fun M1 =>
(f3_add v3 M1).bind fun M2 =>
some M2
set_option maxRecDepth 20000 in
def f4_become (a0 : Nat) (a1 : Nat) (M : zM) : Option zM :=
some (zcpI (zsi M a0 1 (M.1 a1 1)) (a1 + 1) (a0 + 1) 40)
set_option maxRecDepth 20000 in
def f4_isTrait (v0 : Int32) : Option Int32 :=
if v0 = (99 : Int32) then
some (1 : Int32)
else
if v0 = (100 : Int32) then
some (0 : Int32)
else
if v0 = (101 : Int32) then
some (1 : Int32)
else
if v0 = (102 : Int32) then
some (0 : Int32)
else
if v0 = (103 : Int32) then
some (0 : Int32)
else
if v0 = (104 : Int32) then
some (0 : Int32)
else
if v0 = (105 : Int32) then
some (1 : Int32)
else
if v0 = (106 : Int32) then
some (0 : Int32)
else
if v0 = (107 : Int32) then
some (1 : Int32)
else
if v0 = (108 : Int32) then
some (1 : Int32)
else
if v0 = (109 : Int32) then
some (0 : Int32)
else
if v0 = (110 : Int32) then
some (1 : Int32)
else
if v0 = (111 : Int32) then
some (1 : Int32)
else
if v0 = (112 : Int32) then
some (0 : Int32)
else
if v0 = (113 : Int32) then
some (0 : Int32)
else
if v0 = (114 : Int32) then
some (0 : Int32)
else
if v0 = (115 : Int32) then
some (1 : Int32)
else
some (0 : Int32)
set_option maxRecDepth 20000 in
def f4_bindingOf (v0 : Int32) : Option Int32 :=
if v0 = (1042 : Int32) then
some (3 : Int32)
else
if v0 = (1043 : Int32) then
some (2 : Int32)
else
if v0 = (1045 : Int32) then
some (2 : Int32)
else
if v0 = (1047 : Int32) then
some (3 : Int32)
else
if v0 = (1060 : Int32) then
some (1 : Int32)
else
if v0 = (1061 : Int32) then
some (1 : Int32)
else
if v0 = (1062 : Int32) then
some (1 : Int32)
else
if v0 = (1256 : Int32) then
some (4 : Int32)
else
some (0 : Int32)
set_option maxRecDepth 20000 in
def f4_emit (a0 : Nat) (v1 : Int32) (M : zM) : Option zM :=
if (40 : Int32) ≤ (M.1 a0 1) then
some M
else
(zpI M 40 (a0 + 1) (M.1 a0 1) v1).bind fun M1 =>
some (zsi M1 a0 1 ((M1.1 a0 1) + (1 : Int32)))
set_option maxRecDepth 20000 in
def f4_hold (a0 : Nat) (v1 : Int32) (M : zM) : Option zM :=
if (40 : Int32) ≤ (M.1 a0 3) then
some M
else
(zpI M 40 (a0 + 2) (M.1 a0 3) v1).bind fun M1 =>
some (zsi M1 a0 3 ((M1.1 a0 3) + (1 : Int32)))
set_option maxRecDepth 20000 in
def f4_release_0 (a0 : Nat) : Nat → Int32 → zM → Option zM
  | 0, _, _ => none
  | n + 1, v1, M => if (M.1 a0 3) ≤ 0 then
some M
else
(zaI M 40 (a0 + 2) ((M.1 a0 3) - (1 : Int32))).bind fun x1 =>
(f4_bindingOf x1).bind fun x2 =>
if x2 < v1 then
some M
else
(zaI (zsi M a0 3 ((M.1 a0 3) - (1 : Int32))) 40 (a0 + 2) ((zsi M a0 3 ((M.1 a0 3) - (1 : Int32))).1 a0 3)).bind fun x3 =>
(f4_emit a0 x3 (zsi M a0 3 ((M.1 a0 3) - (1 : Int32)))).bind fun M4 =>
f4_release_0 a0 n v1 M4
set_option maxRecDepth 20000 in
def f4_release (a0 : Nat) (v1 : Int32) (M : zM) : Option zM :=
f4_release_0 a0 zfuel v1 M
set_option maxRecDepth 20000 in
def f4_joined (v0 : Int32) (v1 : Int32) (v2 : Int32) : Option Int32 :=
if v0 = (42 : Int32) then
some (v1 * v2)
else
if v0 = (43 : Int32) then
some (v1 + v2)
else
if v0 = (45 : Int32) then
some (v1 - v2)
else
if v0 = (60 : Int32) then
some (if v2 ≤ v1 then (0 : Int32) else (1 : Int32))
else
if v0 = (61 : Int32) then
some (if v1 = v2 then (1 : Int32) else (0 : Int32))
else
if v0 = (62 : Int32) then
some (if v1 ≤ v2 then (0 : Int32) else (1 : Int32))
else
if v2 = 0 then
some (0 : Int32)
else
(zdiv v1 v2).bind fun x1 =>
some x1
set_option maxRecDepth 20000 in
def f5_mostOf (v0 : Int32) : Option Int32 :=
if v0 = (0 : Int32) then
some (1 : Int32)
else
if v0 = (1 : Int32) then
some (6 : Int32)
else
if v0 = (2 : Int32) then
some (5 : Int32)
else
if v0 = (3 : Int32) then
some (1 : Int32)
else
if v0 = (4 : Int32) then
some (5 : Int32)
else
some (-1 : Int32)
set_option maxRecDepth 20000 in
def f5_add (v1 : Int32) (v2 : Int32) (M : zM) : Option zM :=
if (12 : Int32) ≤ (M.1 30 2) then
some M
else
(zpI M 12 31 (M.1 30 2) v1).bind fun M1 =>
(zpI M1 12 32 (M1.1 30 2) v2).bind fun M2 =>
some (zsi M2 30 2 ((M2.1 30 2) + (1 : Int32)))
set_option maxRecDepth 20000 in
def f6_add (v1 : Int32) (M : zM) : Option zM :=
if (80 : Int32) ≤ (M.1 7 1) then
some M
else
(zpI M 80 8 (M.1 7 1) v1).bind fun M1 =>
some (zsi M1 7 1 ((M1.1 7 1) + (1 : Int32)))
set_option maxRecDepth 20000 in
def f6_at (v1 : Int32) (M : zM) : Option Int32 :=
if v1 < 0 then
some (-1 : Int32)
else
if (M.1 7 1) ≤ v1 then
some (-1 : Int32)
else
(zaI M 80 8 v1).bind fun x1 =>
some x1
set_option maxRecDepth 20000 in
def f6_digit (v1 : Int32) (M : zM) : Option Int32 :=
(f6_at v1 M).bind fun x1 =>
some (if x1 < (48 : Int32) then (-1 : Int32) else (if (57 : Int32) < x1 then (-1 : Int32) else (x1 - (48 : Int32))))
set_option maxRecDepth 20000 in
def f7_sizeOf (a0 : Nat) (v1 : Int32) (M : zM) : Option Int32 :=
some (if v1 = 0 then (M.1 a0 0) else (M.1 a0 1))
set_option maxRecDepth 20000 in
def f7_threads (a0 : Nat) (M : zM) : Option Int32 :=
some ((M.1 a0 0) + (M.1 a0 1))
set_option maxRecDepth 20000 in
def f7_fullOf (a0 : Nat) (v1 : Int32) (M : zM) : Option Int32 :=
some ((zshl (1 : Int32) (if v1 = 0 then (M.1 a0 1) else (M.1 a0 0))) - (1 : Int32))
set_option maxRecDepth 20000 in
def f7_all (a0 : Nat) (M : zM) : Option Int32 :=
(f7_fullOf a0 (1 : Int32) M).bind fun x1 =>
(f7_fullOf a0 (0 : Int32) M).bind fun x2 =>
some (x1 ||| (zshl x2 (6 : Int32)))
set_option maxRecDepth 20000 in
def f7_has_9 (a0 : Nat) (v1 : Int32) (v2 : Int32) (M : zM) : Option Int32 :=
if v2 < 0 then
some (0 : Int32)
else
(f7_sizeOf a0 v1 M).bind fun x1 =>
some (if x1 ≤ v2 then (0 : Int32) else (1 : Int32))
set_option maxRecDepth 20000 in
def f7_has (a0 : Nat) (v1 : Int32) (v2 : Int32) (M : zM) : Option Int32 :=
if v1 = 0 then
f7_has_9 a0 v1 v2 M
else
if v1 = (1 : Int32) then
f7_has_9 a0 v1 v2 M
else
some (0 : Int32)
set_option maxRecDepth 20000 in
def f7_crosses (a0 : Nat) (v1 : Int32) (v2 : Int32) (M : zM) : Option Int32 :=
(f7_has a0 (0 : Int32) v1 M).bind fun x1 =>
if x1 = 0 then
some (0 : Int32)
else
(f7_has a0 (1 : Int32) v2 M).bind fun x2 =>
some (if x2 = 0 then (0 : Int32) else (1 : Int32))
set_option maxRecDepth 20000 in
def f7_cellsOf (a0 : Nat) (v1 : Int32) (v2 : Int32) (M : zM) : Option Int32 :=
if (((6 : Int32) * v1) + v2) < 0 then
some (0 : Int32)
else
if (12 : Int32) ≤ (((6 : Int32) * v1) + v2) then
some (0 : Int32)
else
(zaI M 12 (a0 + 1) (((6 : Int32) * v1) + v2)).bind fun x1 =>
some x1
set_option maxRecDepth 20000 in
def f7_overAt (a0 : Nat) (v1 : Int32) (v2 : Int32) (M : zM) : Option Int32 :=
(f7_crosses a0 v1 v2 M).bind fun x1 =>
if x1 = 0 then
some (0 : Int32)
else
(zaI M 12 (a0 + 1) v1).bind fun x2 =>
some ((zushr x2 v2) &&& (1 : Int32))
set_option maxRecDepth 20000 in
def f7_overs_4 (a0 : Nat) : Nat → Int32 → Int32 → zM → Option Int32
  | 0, _, _, _ => none
  | n + 1, v1, v2, M => if (M.1 a0 0) ≤ v2 then
some v1
else
(zaI M 12 (a0 + 1) v2).bind fun x1 =>
(fJ6_bitCount x1).bind fun x2 =>
f7_overs_4 a0 n (v1 + x2) (v2 + (1 : Int32)) M
set_option maxRecDepth 20000 in
def f7_overs (a0 : Nat) (M : zM) : Option Int32 :=
f7_overs_4 a0 zfuel (0 : Int32) (0 : Int32) M
set_option maxRecDepth 20000 in
def f7_changesOf (a0 : Nat) (v1 : Int32) (v2 : Int32) (M : zM) : Option Int32 :=
(f7_cellsOf a0 v1 v2 M).bind fun x1 =>
(f7_fullOf a0 v1 M).bind fun x2 =>
(fJ6_bitCount ((x1 ^^^ (zushr x1 (1 : Int32))) &&& (zushr x2 (1 : Int32)))).bind fun x3 =>
some x3
set_option maxRecDepth 20000 in
def f7_likesOf_43 (a0 : Nat) (k5 : Int32 → Int32 → Int32 → Int32 → zM → Option Int32) (v1 : Int32) (v2 : Int32) (v4 : Int32) (s0 : Int32) (s1 : Int32) (M : zM) : Option Int32 :=
k5 v1 v2 (s0 + s1) (v4 + (1 : Int32)) M
set_option maxRecDepth 20000 in
def f7_likesOf_5 (a0 : Nat) : Nat → Int32 → Int32 → Int32 → Int32 → zM → Option Int32
  | 0, _, _, _, _, _ => none
  | n + 1, v1, v2, v3, v4, M => (f7_sizeOf a0 v1 M).bind fun x1 =>
if x1 ≤ v4 then
some v3
else
if v4 = v2 then
f7_likesOf_43 a0 (f7_likesOf_5 a0 n) v1 v2 v4 v3 (0 : Int32) M
else
(f7_cellsOf a0 v1 v4 M).bind fun x2 =>
(f7_cellsOf a0 v1 v2 M).bind fun x3 =>
f7_likesOf_43 a0 (f7_likesOf_5 a0 n) v1 v2 v4 v3 (if x2 = x3 then (1 : Int32) else (0 : Int32)) M
set_option maxRecDepth 20000 in
def f7_likesOf (a0 : Nat) (v1 : Int32) (v2 : Int32) (M : zM) : Option Int32 :=
f7_likesOf_5 a0 zfuel v1 v2 (0 : Int32) (0 : Int32) M
set_option maxRecDepth 20000 in
def f7_areTwins (a0 : Nat) (v1 : Int32) (v2 : Int32) (M : zM) : Option Int32 :=
if (v1 / (6 : Int32)) = (v2 / (6 : Int32)) then
(f7_has a0 (v1 / (6 : Int32)) (zrem v1 (6 : Int32)) M).bind fun x1 =>
if x1 = 0 then
some (0 : Int32)
else
(f7_has a0 (v1 / (6 : Int32)) (zrem v2 (6 : Int32)) M).bind fun x2 =>
if x2 = 0 then
some (0 : Int32)
else
(zaI M 12 (a0 + 1) v1).bind fun x3 =>
(zaI M 12 (a0 + 1) v2).bind fun x4 =>
some (if x3 = x4 then (1 : Int32) else (0 : Int32))
else
some (0 : Int32)
set_option maxRecDepth 20000 in
def f7_isLoose (a0 : Nat) (v1 : Int32) (v2 : Int32) (M : zM) : Option Int32 :=
(f7_cellsOf a0 v1 v2 M).bind fun x1 =>
if x1 = 0 then
some (1 : Int32)
else
(f7_fullOf a0 v1 M).bind fun x2 =>
some (if x1 = x2 then (1 : Int32) else (0 : Int32))
set_option maxRecDepth 20000 in
def f7_looseIn_89 (a0 : Nat) (k27 : Int32 → Int32 → Int32 → Int32 → Int32 → zM → Option Int32) (v1 : Int32) (v2 : Int32) (v3 : Int32) (v4 : Int32) (v5 : Int32) (M : zM) : Option Int32 :=
k27 v1 v2 v3 v4 (v5 + (1 : Int32)) M
set_option maxRecDepth 20000 in
def f7_looseIn_82 (a0 : Nat) (k27 : Int32 → Int32 → Int32 → Int32 → Int32 → zM → Option Int32) (v1 : Int32) (v2 : Int32) (v3 : Int32) (v4 : Int32) (v5 : Int32) (M : zM) : Option Int32 :=
f7_looseIn_89 a0 k27 v1 (v2 ||| (zshl (1 : Int32) v5)) v3 v4 v5 M
set_option maxRecDepth 20000 in
def f7_looseIn_27 (a0 : Nat) : Nat → Int32 → Int32 → Int32 → Int32 → Int32 → zM → Option Int32
  | 0, _, _, _, _, _, _ => none
  | n + 1, v1, v2, v3, v4, v5, M => if (12 : Int32) ≤ v5 then
some v2
else
(zaI M 12 (a0 + 1) v5).bind fun x1 =>
if ((zushr v1 v5) &&& (1 : Int32)) = 0 then
f7_looseIn_89 a0 (f7_looseIn_27 a0 n) v1 v2 v3 v4 v5 M
else
if (x1 &&& (if (6 : Int32) ≤ v5 then v3 else v4)) = 0 then
f7_looseIn_82 a0 (f7_looseIn_27 a0 n) v1 v2 v3 v4 v5 M
else
if (x1 &&& (if (6 : Int32) ≤ v5 then v3 else v4)) = (if (6 : Int32) ≤ v5 then v3 else v4) then
f7_looseIn_82 a0 (f7_looseIn_27 a0 n) v1 v2 v3 v4 v5 M
else
f7_looseIn_89 a0 (f7_looseIn_27 a0 n) v1 v2 v3 v4 v5 M
set_option maxRecDepth 20000 in
def f7_looseIn (a0 : Nat) (v1 : Int32) (M : zM) : Option Int32 :=
if (v1 &&& (63 : Int32)) = 0 then
some (0 : Int32)
else
if (zushr v1 (6 : Int32)) = 0 then
some (0 : Int32)
else
f7_looseIn_27 a0 zfuel v1 (0 : Int32) (v1 &&& (63 : Int32)) (zushr v1 (6 : Int32)) (0 : Int32) M
set_option maxRecDepth 20000 in
def f7_repeatOf_54 (a0 : Nat) (k16 : Int32 → Int32 → Int32 → Int32 → zM → Option Int32) (v1 : Int32) (v2 : Int32) (v4 : Int32) (s0 : Int32) (M : zM) : Option Int32 :=
k16 v1 v2 s0 (v4 + (1 : Int32)) M
set_option maxRecDepth 20000 in
def f7_repeatOf_16 (a0 : Nat) (k61 : Int32 → Int32 → Int32 → zM → Option Int32) : Nat → Int32 → Int32 → Int32 → Int32 → zM → Option Int32
  | 0, _, _, _, _, _ => none
  | n + 1, v1, v2, v3, v4, M => (f7_sizeOf a0 v1 M).bind fun x1 =>
if x1 ≤ v4 then
k61 v1 v2 v3 M
else
if v3 = 0 then
f7_repeatOf_54 a0 (f7_repeatOf_16 a0 k61 n) v1 v2 v4 (0 : Int32) M
else
(f7_cellsOf a0 v1 v4 M).bind fun x2 =>
(f7_cellsOf a0 v1 (v4 - v2) M).bind fun x3 =>
f7_repeatOf_54 a0 (f7_repeatOf_16 a0 k61 n) v1 v2 v4 (if x2 = x3 then (1 : Int32) else (0 : Int32)) M
set_option maxRecDepth 20000 in
def f7_repeatOf_61 (a0 : Nat) (k2 : Int32 → Int32 → zM → Option Int32) (v1 : Int32) (v2 : Int32) (v3 : Int32) (M : zM) : Option Int32 :=
if v3 = 0 then
k2 v1 (v2 + (1 : Int32)) M
else
some v2
set_option maxRecDepth 20000 in
def f7_repeatOf_2 (a0 : Nat) : Nat → Int32 → Int32 → zM → Option Int32
  | 0, _, _, _ => none
  | n + 1, v1, v2, M => (f7_sizeOf a0 v1 M).bind fun x1 =>
if x1 ≤ v2 then
(f7_sizeOf a0 v1 M).bind fun x2 =>
some x2
else
f7_repeatOf_16 a0 (f7_repeatOf_61 a0 (f7_repeatOf_2 a0 n)) zfuel v1 v2 (1 : Int32) v2 M
set_option maxRecDepth 20000 in
def f7_repeatOf (a0 : Nat) (v1 : Int32) (M : zM) : Option Int32 :=
f7_repeatOf_2 a0 zfuel v1 (1 : Int32) M
set_option maxRecDepth 20000 in
def f7_runsAlong_4 (a0 : Nat) : Nat → Int32 → Int32 → Int32 → zM → Option Int32
  | 0, _, _, _, _ => none
  | n + 1, v1, v2, v3, M => (f7_sizeOf a0 v1 M).bind fun x1 =>
if x1 ≤ v3 then
some v2
else
(f7_changesOf a0 v1 v3 M).bind fun x2 =>
f7_runsAlong_4 a0 n v1 (v2 + ((1 : Int32) + x2)) (v3 + (1 : Int32)) M
set_option maxRecDepth 20000 in
def f7_runsAlong (a0 : Nat) (v1 : Int32) (M : zM) : Option Int32 :=
f7_runsAlong_4 a0 zfuel v1 (0 : Int32) (0 : Int32) M
set_option maxRecDepth 20000 in
def f7_longestRun_27 (a0 : Nat) (k81 : Int32 → Int32 → Int32 → zM → Option Int32) : Nat → Int32 → Int32 → Int32 → Int32 → Int32 → Int32 → zM → Option Int32
  | 0, _, _, _, _, _, _, _ => none
  | n + 1, v1, v2, v3, v4, v5, v6, M => (f7_sizeOf a0 ((1 : Int32) - v1) M).bind fun x1 =>
if x1 ≤ v6 then
k81 v1 v2 v3 M
else
f7_longestRun_27 a0 k81 n v1 (zmax v2 (if ((zushr v4 v6) &&& (1 : Int32)) = ((zushr v4 (v6 - (1 : Int32))) &&& (1 : Int32)) then (v5 + (1 : Int32)) else (1 : Int32))) v3 v4 (if ((zushr v4 v6) &&& (1 : Int32)) = ((zushr v4 (v6 - (1 : Int32))) &&& (1 : Int32)) then (v5 + (1 : Int32)) else (1 : Int32)) (v6 + (1 : Int32)) M
set_option maxRecDepth 20000 in
def f7_longestRun_81 (a0 : Nat) (k4 : Int32 → Int32 → Int32 → zM → Option Int32) (v1 : Int32) (v2 : Int32) (v3 : Int32) (M : zM) : Option Int32 :=
k4 v1 v2 (v3 + (1 : Int32)) M
set_option maxRecDepth 20000 in
def f7_longestRun_4 (a0 : Nat) : Nat → Int32 → Int32 → Int32 → zM → Option Int32
  | 0, _, _, _, _ => none
  | n + 1, v1, v2, v3, M => (f7_sizeOf a0 v1 M).bind fun x1 =>
if x1 ≤ v3 then
some v2
else
(f7_cellsOf a0 v1 v3 M).bind fun x2 =>
f7_longestRun_27 a0 (f7_longestRun_81 a0 (f7_longestRun_4 a0 n)) zfuel v1 v2 v3 x2 (1 : Int32) (1 : Int32) M
set_option maxRecDepth 20000 in
def f7_longestRun (a0 : Nat) (v1 : Int32) (M : zM) : Option Int32 :=
f7_longestRun_4 a0 zfuel v1 (1 : Int32) (0 : Int32) M
set_option maxRecDepth 20000 in
def f7_settle_12 (a0 : Nat) (k51 : Int32 → Int32 → zM → Option zM) : Nat → Int32 → Int32 → Int32 → zM → Option zM
  | 0, _, _, _, _ => none
  | n + 1, v1, v2, v3, M => if (M.1 a0 0) ≤ v3 then
k51 v1 v2 M
else
if (M.1 a0 1) ≤ v1 then
k51 v1 v2 M
else
(zaI M 12 (a0 + 1) v3).bind fun x1 =>
f7_settle_12 a0 k51 n v1 (v2 ||| (zshl (((zushr x1 v1) &&& (1 : Int32)) ^^^ (1 : Int32)) v3)) (v3 + (1 : Int32)) M
set_option maxRecDepth 20000 in
def f7_settle_51 (a0 : Nat) (k2 : Int32 → zM → Option zM) (v1 : Int32) (v2 : Int32) (M : zM) : Option zM :=
(zpI M 12 (a0 + 1) ((6 : Int32) + v1) v2).bind fun M1 =>
k2 (v1 + (1 : Int32)) M1
set_option maxRecDepth 20000 in
def f7_settle_2 (a0 : Nat) : Nat → Int32 → zM → Option zM
  | 0, _, _ => none
  | n + 1, v1, M => if (6 : Int32) ≤ v1 then
some M
else
f7_settle_12 a0 (f7_settle_51 a0 (f7_settle_2 a0 n)) zfuel v1 (0 : Int32) (0 : Int32) M
set_option maxRecDepth 20000 in
def f7_settle (a0 : Nat) (M : zM) : Option zM :=
f7_settle_2 a0 zfuel (0 : Int32) M
set_option maxRecDepth 20000 in
def f7_become (a0 : Nat) (a1 : Nat) (M : zM) : Option zM :=
some (zcpI (zsi (zsi (zsi M a0 0 (M.1 a1 0)) a0 1 ((zsi M a0 0 (M.1 a1 0)).1 a1 1)) a0 2 ((zsi (zsi M a0 0 (M.1 a1 0)) a0 1 ((zsi M a0 0 (M.1 a1 0)).1 a1 1)).1 a1 2)) (a1 + 1) (a0 + 1) 12)
set_option maxRecDepth 20000 in
def f7_shape_4 (a0 : Nat) : Nat → Int64 → Int32 → zM → Option Int64
  | 0, _, _, _ => none
  | n + 1, v1, v3, M => if v3 < 0 then
some (((zlshl v1 (6 : Int32)) ||| (Int32.toInt64 (zshl (M.1 a0 1) (3 : Int32)))) ||| (Int32.toInt64 (M.1 a0 0)))
else
(zaI M 12 (a0 + 1) v3).bind fun x1 =>
f7_shape_4 a0 n ((zlshl v1 (6 : Int32)) ||| (Int32.toInt64 x1)) (v3 + (-1 : Int32)) M
set_option maxRecDepth 20000 in
def f7_shape (a0 : Nat) (M : zM) : Option Int64 :=
f7_shape_4 a0 zfuel (0 : Int64) (5 : Int32) M
set_option maxRecDepth 20000 in
def f7_takeShape_24 (a0 : Nat) : Nat → Int64 → Int32 → zM → Option zM
  | 0, _, _, _ => none
  | n + 1, v1, v3, M => if (6 : Int32) ≤ v3 then
(f7_settle a0 M).bind fun M1 =>
some M1
else
(zpI M 12 (a0 + 1) v3 (Int64.toInt32 ((zlushr v1 ((6 : Int32) + ((6 : Int32) * v3))) &&& (63 : Int64)))).bind fun M1 =>
f7_takeShape_24 a0 n v1 (v3 + (1 : Int32)) M1
set_option maxRecDepth 20000 in
def f7_takeShape (a0 : Nat) (v1 : Int64) (M : zM) : Option zM :=
f7_takeShape_24 a0 zfuel v1 (0 : Int32) (zsi (zsi M a0 0 (Int64.toInt32 (v1 &&& (7 : Int64)))) a0 1 (Int64.toInt32 ((zlushr v1 (3 : Int32)) &&& (7 : Int64))))
set_option maxRecDepth 20000 in
def f7_readFrom_97 (a0 : Nat) (k29 : Int32 → Int32 → zM → Option (Int32 × zM)) (v2 : Int32) (v3 : Int32) (s1 : Int32) (s2 : Int32) (s3 : Int32) (M : zM) : Option (Int32 × zM) :=
(zpI M 12 (a0 + 1) s1 (s2 ||| s3)).bind fun M1 =>
k29 v2 (v3 + (1 : Int32)) M1
set_option maxRecDepth 20000 in
def f7_readFrom_68 (a0 : Nat) (k29 : Int32 → Int32 → zM → Option (Int32 × zM)) (v2 : Int32) (v3 : Int32) (v4 : Int32) (M : zM) : Option (Int32 × zM) :=
(zdiv (v3 - (1 : Int32)) v2).bind fun x1 =>
(zaI M 12 (a0 + 1) x1).bind fun x2 =>
if v4 = (35 : Int32) then
(zmod (v3 - (1 : Int32)) v2).bind fun x3 =>
f7_readFrom_97 a0 k29 v2 v3 x1 x2 (zshl (1 : Int32) x3) M
else
f7_readFrom_97 a0 k29 v2 v3 x1 x2 (0 : Int32) M
set_option maxRecDepth 20000 in
def f7_readFrom_29 (a0 : Nat) : Nat → Int32 → Int32 → zM → Option (Int32 × zM)
  | 0, _, _, _ => none
  | n + 1, v2, v3, M => if (M.1 7 1) ≤ v3 then
if ((M.1 7 1) - (1 : Int32)) < v2 then
some ((M.1 7 1), M)
else
(zmod ((M.1 7 1) - (1 : Int32)) v2).bind fun x1 =>
if x1 = 0 then
(zdiv ((M.1 7 1) - (1 : Int32)) v2).bind fun x2 =>
(f7_settle a0 (zsi (zsi (zsi M a0 0 x2) a0 1 v2) a0 2 (0 : Int32))).bind fun M3 =>
some ((-1 : Int32), M3)
else
some ((M.1 7 1), M)
else
(f6_at v3 M).bind fun x1 =>
if ((6 : Int32) * v2) < v3 then
some (v3, M)
else
if x1 = (35 : Int32) then
f7_readFrom_68 a0 (f7_readFrom_29 a0 n) v2 v3 x1 M
else
if x1 = (46 : Int32) then
f7_readFrom_68 a0 (f7_readFrom_29 a0 n) v2 v3 x1 M
else
some (v3, M)
set_option maxRecDepth 20000 in
def f7_readFrom (a0 : Nat) (M : zM) : Option (Int32 × zM) :=
(f6_digit (0 : Int32) M).bind fun x1 =>
if x1 < (1 : Int32) then
some ((0 : Int32), M)
else
if x1 ≤ (6 : Int32) then
(fJ7_fillI (a0 + 1) 12 (0 : Int32) M).bind fun M2 =>
f7_readFrom_29 a0 zfuel x1 (1 : Int32) M2
else
some ((0 : Int32), M)
set_option maxRecDepth 20000 in
def f7_fillPicks_43 (a0 : Nat) (k6 : Int32 → Int32 → Int32 → Int32 → Int32 → zM → Option (Int32 × zM)) (v1 : Int32) (v2 : Int32) (v3 : Int32) (v4 : Int32) (v5 : Int32) (s1 : Int32) (s2 : Int32) (M : zM) : Option (Int32 × zM) :=
(zpI M 12 (a0 + 1) s1 s2).bind fun M1 =>
(zaI M1 12 (a0 + 1) v5).bind fun x2 =>
k6 v1 v2 v3 (v4 + x2) (v5 + (1 : Int32)) M1
set_option maxRecDepth 20000 in
def f7_fillPicks_6 (a0 : Nat) : Nat → Int32 → Int32 → Int32 → Int32 → Int32 → zM → Option (Int32 × zM)
  | 0, _, _, _, _, _, _ => none
  | n + 1, v1, v2, v3, v4, v5, M => if (M.1 a0 0) ≤ v5 then
(f7_settle a0 M).bind fun M1 =>
some (v4, M1)
else
if v1 ≤ v5 then
f7_fillPicks_43 a0 (f7_fillPicks_6 a0 n) v1 v2 v3 v4 v5 v5 (0 : Int32) M
else
(f7_fullOf a0 (0 : Int32) M).bind fun x1 =>
f7_fillPicks_43 a0 (f7_fillPicks_6 a0 n) v1 v2 v3 v4 v5 v5 ((v2 + (v5 * v3)) &&& x1) M
set_option maxRecDepth 20000 in
def f7_fillPicks (a0 : Nat) (v1 : Int32) (v2 : Int32) (v3 : Int32) (M : zM) : Option (Int32 × zM) :=
f7_fillPicks_6 a0 zfuel v1 v2 v3 (0 : Int32) (0 : Int32) M
set_option maxRecDepth 20000 in
def f7_turnCell (a0 : Nat) (v1 : Int32) (v2 : Int32) (M : zM) : Option (Int32 × zM) :=
(f7_crosses a0 v1 v2 M).bind fun x1 =>
if x1 = 0 then
some ((-1 : Int32), M)
else
(zaI M 12 (a0 + 1) v1).bind fun x2 =>
(zpI M 12 (a0 + 1) v1 (x2 ^^^ (zshl (1 : Int32) v2))).bind fun M3 =>
(f7_settle a0 M3).bind fun M4 =>
(f7_overs a0 M4).bind fun x5 =>
some (x5, M4)
set_option maxRecDepth 20000 in
def f7_turnedRound_4 (a0 : Nat) : Nat → Int32 → Int32 → Int32 → zM → Option Int32
  | 0, _, _, _, _ => none
  | n + 1, v1, v2, v3, M => if (M.1 a0 1) ≤ v3 then
some v2
else
f7_turnedRound_4 a0 n v1 ((zshl v2 (1 : Int32)) ||| ((zushr v1 v3) &&& (1 : Int32))) (v3 + (1 : Int32)) M
set_option maxRecDepth 20000 in
def f7_turnedRound (a0 : Nat) (v1 : Int32) (M : zM) : Option Int32 :=
f7_turnedRound_4 a0 zfuel v1 (0 : Int32) (0 : Int32) M
set_option maxRecDepth 20000 in
def f8_sign (v1 : Int32) (M : zM) : Option (Int32 × zM) :=
if ((M.1 7 1) + (4 : Int32)) ≤ (80 : Int32) then
(f6_add ((zushr v1 (24 : Int32)) &&& (255 : Int32)) M).bind fun M1 =>
(f6_add ((zushr v1 (16 : Int32)) &&& (255 : Int32)) M1).bind fun M2 =>
(f6_add ((zushr v1 (8 : Int32)) &&& (255 : Int32)) M2).bind fun M3 =>
(f6_add (v1 &&& (255 : Int32)) M3).bind fun M4 =>
some ((M4.1 7 1), M4)
else
some ((-1 : Int32), M)
set_option maxRecDepth 20000 in
def f8_end (v1 : Int32) (M : zM) : Option (Int32 × zM) :=
if v1 < 0 then
some ((0 : Int32), M)
else
if v1 ≤ (M.1 7 1) then
some ((1 : Int32), (zsi M 7 1 v1))
else
some ((0 : Int32), M)
set_option maxRecDepth 20000 in
def f8_cloth (M : zM) : Option (Int32 × zM) :=
(f7_readFrom 3 M).bind fun p1 =>
if p1.1 = (-1 : Int32) then
(f7_become 1 3 (zsi p1.2 7 1 (0 : Int32))).bind fun M2 =>
(f2_empty 33 15 M2).bind fun M3 =>
(f2_empty 36 3 M3).bind fun M4 =>
some ((M4.1 1 0), M4)
else
some (((-1 : Int32) - p1.1), (zsi p1.2 7 1 (0 : Int32)))
set_option maxRecDepth 20000 in
def f8_cell (v1 : Int32) (v2 : Int32) (M : zM) : Option Int32 :=
(f7_crosses 1 v1 v2 M).bind fun x1 =>
if x1 = 0 then
none
else
(f7_overAt 1 v1 v2 M).bind fun x2 =>
some x2
set_option maxRecDepth 20000 in
def f8_sheet_29 (v1 : Int32) (v2 : Int32) (v3 : Int32) (v4 : Int32) (M : zM) : Option (Int32 × zM) :=
(f7_fillPicks 1 (if v1 = (3 : Int32) then (0 : Int32) else v2) v3 v4 M).bind fun p1 =>
some ((if v1 = (3 : Int32) then (-3 : Int32) else p1.1), p1.2)
set_option maxRecDepth 20000 in
def f8_sheet (v1 : Int32) (v2 : Int32) (v3 : Int32) (v4 : Int32) (M : zM) : Option (Int32 × zM) :=
if v1 < 0 then
some ((-1 : Int32), M)
else
if (3 : Int32) < v1 then
some ((-1 : Int32), M)
else
if v2 ≤ (6 : Int32) then
if (3 : Int32) ≤ v1 then
f8_sheet_29 v1 v2 v3 v4 M
else
if 0 ≤ v2 then
f8_sheet_29 v1 v2 v3 v4 M
else
some ((-2 : Int32), M)
else
some ((-1 : Int32), M)
set_option maxRecDepth 20000 in
def f8_loose (M : zM) : Option (Int32 × zM) :=
(f7_all 1 M).bind fun x1 =>
(f7_looseIn 1 x1 M).bind fun x2 =>
(fJ6_bitCount (x2 &&& (63 : Int32))).bind fun x3 =>
(fJ6_bitCount (zushr x2 (6 : Int32))).bind fun x4 =>
(f3_tell_ (Int32.toInt64 x3) (Int32.toInt64 x4) M).bind fun M5 =>
some (x2, M5)
set_option maxRecDepth 20000 in
def f8_sheds_50 (v1 : Int32) (v2 : Int32) (M : zM) : Option (Int32 × zM) :=
(f3_tell_ (Int32.toInt64 v1) (Int32.toInt64 v2) M).bind fun M1 =>
(fJ6_bitCount v1).bind fun x2 =>
some (x2, M1)
set_option maxRecDepth 20000 in
def f8_sheds_19 : Nat → Int32 → Int32 → Int32 → zM → Option (Int32 × zM)
  | 0, _, _, _, _ => none
  | n + 1, v1, v2, v3, M => if v3 = 0 then
f8_sheds_50 v1 v2 M
else
if (12 : Int32) < v2 then
f8_sheds_50 v1 v2 M
else
(f7_looseIn 1 (v1 &&& (v3 ^^^ (-1 : Int32))) M).bind fun x1 =>
f8_sheds_19 n (v1 &&& (v3 ^^^ (-1 : Int32))) (v2 + (1 : Int32)) x1 M
set_option maxRecDepth 20000 in
def f8_sheds (M : zM) : Option (Int32 × zM) :=
(f7_all 1 M).bind fun x1 =>
(f7_looseIn 1 x1 M).bind fun x2 =>
f8_sheds_19 zfuel x1 (0 : Int32) x2 M
set_option maxRecDepth 20000 in
def f8_repeats (M : zM) : Option (Int32 × zM) :=
(f7_repeatOf 1 (1 : Int32) M).bind fun x1 =>
(f3_tell (Int32.toInt64 x1) M).bind fun M2 =>
(f7_repeatOf 1 (0 : Int32) M2).bind fun x3 =>
some (x3, M2)
set_option maxRecDepth 20000 in
def f8_runs (M : zM) : Option (Int32 × zM) :=
(f7_longestRun 1 (0 : Int32) M).bind fun x1 =>
(f7_runsAlong 1 (1 : Int32) M).bind fun x2 =>
(f3_tell_ (Int32.toInt64 x1) (Int32.toInt64 x2) M).bind fun M3 =>
(f7_longestRun 1 (1 : Int32) M3).bind fun x4 =>
(f3_add (Int32.toInt64 x4) M3).bind fun M5 =>
(f7_runsAlong 1 (0 : Int32) M5).bind fun x6 =>
some (x6, M5)
set_option maxRecDepth 20000 in
def f8_twins_57 (k21 : Int32 → Int32 → Int32 → zM → Option (Int32 × zM)) (v1 : Int32) (v2 : Int32) (v3 : Int32) (M : zM) : Option (Int32 × zM) :=
k21 v1 v2 (v3 + (1 : Int32)) M
set_option maxRecDepth 20000 in
def f8_twins_54 (k21 : Int32 → Int32 → Int32 → zM → Option (Int32 × zM)) (v1 : Int32) (v2 : Int32) (v3 : Int32) (M : zM) : Option (Int32 × zM) :=
f8_twins_57 k21 (v1 + (1 : Int32)) v2 v3 M
set_option maxRecDepth 20000 in
def f8_twins_21 (k63 : Int32 → Int32 → zM → Option (Int32 × zM)) : Nat → Int32 → Int32 → Int32 → zM → Option (Int32 × zM)
  | 0, _, _, _, _ => none
  | n + 1, v1, v2, v3, M => if (12 : Int32) ≤ v3 then
k63 v1 v2 M
else
(f7_areTwins 1 v2 v3 M).bind fun x1 =>
if x1 = 0 then
f8_twins_57 (f8_twins_21 k63 n) v1 v2 v3 M
else
if v1 = 0 then
(f3_tell_ (Int32.toInt64 v2) (Int32.toInt64 v3) M).bind fun M2 =>
f8_twins_54 (f8_twins_21 k63 n) v1 v2 v3 M2
else
f8_twins_54 (f8_twins_21 k63 n) v1 v2 v3 M
set_option maxRecDepth 20000 in
def f8_twins_63 (k11 : Int32 → Int32 → zM → Option (Int32 × zM)) (v1 : Int32) (v2 : Int32) (M : zM) : Option (Int32 × zM) :=
k11 v1 (v2 + (1 : Int32)) M
set_option maxRecDepth 20000 in
def f8_twins_11 : Nat → Int32 → Int32 → zM → Option (Int32 × zM)
  | 0, _, _, _ => none
  | n + 1, v1, v2, M => if (12 : Int32) ≤ v2 then
some (v1, M)
else
f8_twins_21 (f8_twins_63 (f8_twins_11 n)) zfuel v1 v2 (v2 + (1 : Int32)) M
set_option maxRecDepth 20000 in
def f8_twins (M : zM) : Option (Int32 × zM) :=
(f3_clear M).bind fun M1 =>
f8_twins_11 zfuel (0 : Int32) (0 : Int32) M1
set_option maxRecDepth 20000 in
def f8_told (v1 : Int32) (v2 : Int32) (M : zM) : Option (Int32 × zM) :=
if (12 : Int32) ≤ (M.1 30 2) then
some ((-1 : Int32), M)
else
if v2 < 0 then
some ((-1 : Int32), M)
else
(f5_mostOf v1).bind fun x1 =>
if v2 ≤ x1 then
(f5_add v1 v2 M).bind fun M2 =>
some ((M2.1 30 2), M2)
else
some ((-1 : Int32), M)
set_option maxRecDepth 20000 in
def f8_forget (M : zM) : Option (Int32 × zM) :=
some ((M.1 30 2), (zsi M 30 2 (0 : Int32)))
set_option maxRecDepth 20000 in
def f8_keep (v1 : Int32) (M : zM) : Option (Int32 × zM) :=
if v1 < 0 then
some ((0 : Int32), M)
else
if v1 < (3 : Int32) then
(f7_shape 1 M).bind fun x1 =>
(f2_put 36 3 v1 x1 (M.1 1 2) M).bind fun M2 =>
some ((1 : Int32), M2)
else
some ((0 : Int32), M)
set_option maxRecDepth 20000 in
def f8_count (v1 : Int32) (M : zM) : Option Int32 :=
if v1 = (0 : Int32) then
some (M.1 1 0)
else
if v1 = (1 : Int32) then
some (M.1 1 1)
else
if v1 = (2 : Int32) then
some (M.1 1 2)
else
if v1 = (3 : Int32) then
(f7_overs 1 M).bind fun x1 =>
some x1
else
if v1 = (4 : Int32) then
some (M.1 30 2)
else
if v1 = (5 : Int32) then
some (M.1 33 2)
else
if v1 = (6 : Int32) then
some (M.1 9 1)
else
if v1 = (7 : Int32) then
some (M.1 7 1)
else
some (-100 : Int32)
set_option maxRecDepth 20000 in
def f8_row (v1 : Int32) (M : zM) : Option Int64 :=
if v1 < 0 then
none
else
if v1 < (M.1 9 1) then
(zaJ M 8 10 v1).bind fun x1 =>
some x1
else
none
set_option maxRecDepth 20000 in
def f8_digitsOf (v0 : Int32) : Option Nat :=
if v0 = (100 : Int32) then
some 2
else
if v0 = (109 : Int32) then
some 4
else
if v0 = (110 : Int32) then
some 0
else
if v0 = (116 : Int32) then
some 3
else
if v0 = (119 : Int32) then
some 1
else
some 5
set_option maxRecDepth 20000 in
def f8_workFault_88 (k22 : Nat → Int32 → Int32 → Int32 → zM → Option Int32) (v1 : Nat) (v2 : Int32) (v3 : Int32) (v4 : Int32) (M : zM) : Option Int32 :=
k22 v1 v2 v3 (v4 + (1 : Int32)) M
set_option maxRecDepth 20000 in
def f8_workFault_22 : Nat → Nat → Int32 → Int32 → Int32 → zM → Option Int32
  | 0, _, _, _, _, _ => none
  | n + 1, v1, v2, v3, v4, M => if v3 ≤ v4 then
if (M.1 7 1) ≤ (60 : Int32) then
(zslen v1).bind fun x1 =>
some (if x1 ≤ v2 then (-1 : Int32) else (M.1 7 1))
else
some (60 : Int32)
else
(f6_at v4 M).bind fun x1 =>
(zslen v1).bind fun x2 =>
if v2 = x2 then
(f8_digitsOf x1).bind fun x3 =>
(zsemp x3).bind fun x4 =>
if x4 = 0 then
f8_workFault_88 (f8_workFault_22 n) x3 (0 : Int32) v3 v4 M
else
some v4
else
if x1 < (48 : Int32) then
some v4
else
(zschr v1 v2).bind fun x3 =>
if x1 ≤ x3 then
f8_workFault_88 (f8_workFault_22 n) v1 (v2 + (1 : Int32)) v3 v4 M
else
some v4
set_option maxRecDepth 20000 in
def f8_workFault (M : zM) : Option Int32 :=
f8_workFault_22 zfuel 5 (0 : Int32) (zmin (M.1 7 1) (60 : Int32)) (0 : Int32) M
set_option maxRecDepth 20000 in
def f8_checkSum_4 : Nat → Int32 → Int32 → Int32 → Int32 → Option Int32
  | 0, _, _, _, _ => none
  | n + 1, v0, v1, v2, v3 => if v1 ≤ v3 then
some v2
else
f8_checkSum_4 n v0 v1 (v2 + (((zushr v0 v3) &&& (1 : Int32)) * (v3 + (1 : Int32)))) (v3 + (1 : Int32))
set_option maxRecDepth 20000 in
def f8_checkSum (v0 : Int32) (v1 : Int32) : Option Int32 :=
f8_checkSum_4 zfuel v0 v1 (0 : Int32) (0 : Int32)
set_option maxRecDepth 20000 in
def f8_mendingCell_81 (k2 : Int32 → Int32 → zM → Option (Int32 × zM)) (v2 : Int32) (v3 : Int32) (M : zM) : Option (Int32 × zM) :=
k2 v2 (v3 + (1 : Int32)) M
set_option maxRecDepth 20000 in
def f8_mendingCell_2 : Nat → Int32 → Int32 → zM → Option (Int32 × zM)
  | 0, _, _, _ => none
  | n + 1, v2, v3, M => if ((6 : Int32) * (M.1 1 0)) ≤ v3 then
some ((-1 : Int32), M)
else
(f7_crosses 1 (v3 / (6 : Int32)) (zrem v3 (6 : Int32)) M).bind fun x1 =>
if x1 = 0 then
f8_mendingCell_81 (f8_mendingCell_2 n) v2 v3 M
else
(f0_turn (v3 / (6 : Int32)) (zrem v3 (6 : Int32)) M).bind fun M2 =>
(f0_areTogether v2 M2).bind fun x3 =>
(f0_turn (v3 / (6 : Int32)) (zrem v3 (6 : Int32)) M2).bind fun M4 =>
if x3 = 0 then
f8_mendingCell_81 (f8_mendingCell_2 n) v2 v3 M4
else
some (v3, M4)
set_option maxRecDepth 20000 in
def f8_mendingCell (v1 : Int32) (v2 : Int32) (M : zM) : Option (Int32 × zM) :=
f8_mendingCell_2 zfuel v2 v1 M
set_option maxRecDepth 20000 in
def f8_differences_20 (k92 : Int32 → Int32 → Int32 → Int32 → zM → Option Int32) : Nat → Int32 → Int32 → Int32 → Int32 → Int32 → zM → Option Int32
  | 0, _, _, _, _, _, _ => none
  | n + 1, v1, v2, v3, v4, v5, M => if (M.1 1 1) ≤ v5 then
k92 v1 v2 v3 v4 M
else
(zmod (v4 + v1) (M.1 1 0)).bind fun x1 =>
(zmod (v5 + v2) (M.1 1 1)).bind fun x2 =>
(f7_overAt 3 v4 v5 M).bind fun x3 =>
(f7_overAt 1 x1 x2 M).bind fun x4 =>
f8_differences_20 k92 n v1 v2 (v3 + (x3 ^^^ x4)) v4 (v5 + (1 : Int32)) M
set_option maxRecDepth 20000 in
def f8_differences_92 (k5 : Int32 → Int32 → Int32 → Int32 → zM → Option Int32) (v1 : Int32) (v2 : Int32) (v3 : Int32) (v4 : Int32) (M : zM) : Option Int32 :=
k5 v1 v2 v3 (v4 + (1 : Int32)) M
set_option maxRecDepth 20000 in
def f8_differences_5 : Nat → Int32 → Int32 → Int32 → Int32 → zM → Option Int32
  | 0, _, _, _, _, _ => none
  | n + 1, v1, v2, v3, v4, M => if (M.1 1 0) ≤ v4 then
some v3
else
f8_differences_20 (f8_differences_92 (f8_differences_5 n)) zfuel v1 v2 v3 v4 (0 : Int32) M
set_option maxRecDepth 20000 in
def f8_differences (v1 : Int32) (v2 : Int32) (M : zM) : Option Int32 :=
f8_differences_5 zfuel v1 v2 (0 : Int32) (0 : Int32) M
set_option maxRecDepth 20000 in
def f8_otherwise_20 (k110 : Int32 → Int32 → Int32 → Int32 → zM → Option Int32) : Nat → Int32 → Int32 → Int32 → Int32 → Int32 → zM → Option Int32
  | 0, _, _, _, _, _, _ => none
  | n + 1, v1, v2, v3, v4, v5, M => if (M.1 1 1) ≤ v5 then
k110 v1 v2 v3 v4 M
else
(f7_overAt 1 v4 v5 M).bind fun x1 =>
(f7_overAt 1 (if v1 = 0 then v4 else (((M.1 1 0) - (1 : Int32)) - v4)) (if v2 = 0 then v5 else (((M.1 1 1) - (1 : Int32)) - v5)) M).bind fun x2 =>
f8_otherwise_20 k110 n v1 v2 (v3 + (x1 ^^^ x2)) v4 (v5 + (1 : Int32)) M
set_option maxRecDepth 20000 in
def f8_otherwise_110 (k5 : Int32 → Int32 → Int32 → Int32 → zM → Option Int32) (v1 : Int32) (v2 : Int32) (v3 : Int32) (v4 : Int32) (M : zM) : Option Int32 :=
k5 v1 v2 v3 (v4 + (1 : Int32)) M
set_option maxRecDepth 20000 in
def f8_otherwise_5 : Nat → Int32 → Int32 → Int32 → Int32 → zM → Option Int32
  | 0, _, _, _, _, _ => none
  | n + 1, v1, v2, v3, v4, M => if (M.1 1 0) ≤ v4 then
some v3
else
f8_otherwise_20 (f8_otherwise_110 (f8_otherwise_5 n)) zfuel v1 v2 v3 v4 (0 : Int32) M
set_option maxRecDepth 20000 in
def f8_otherwise (v1 : Int32) (v2 : Int32) (M : zM) : Option Int32 :=
f8_otherwise_5 zfuel v1 v2 (0 : Int32) (0 : Int32) M
set_option maxRecDepth 20000 in
def f8_otherwiseAcross_17 (k56 : Int32 → Int32 → zM → Option Int32) : Nat → Int32 → Int32 → Int32 → zM → Option Int32
  | 0, _, _, _, _ => none
  | n + 1, v1, v2, v3, M => if (M.1 1 1) ≤ v3 then
k56 v1 v2 M
else
(f7_overAt 1 v2 v3 M).bind fun x1 =>
(f7_overAt 1 v3 v2 M).bind fun x2 =>
f8_otherwiseAcross_17 k56 n (v1 + (x1 ^^^ x2)) v2 (v3 + (1 : Int32)) M
set_option maxRecDepth 20000 in
def f8_otherwiseAcross_56 (k4 : Int32 → Int32 → zM → Option Int32) (v1 : Int32) (v2 : Int32) (M : zM) : Option Int32 :=
k4 v1 (v2 + (1 : Int32)) M
set_option maxRecDepth 20000 in
def f8_otherwiseAcross_4 : Nat → Int32 → Int32 → zM → Option Int32
  | 0, _, _, _ => none
  | n + 1, v1, v2, M => if (M.1 1 0) ≤ v2 then
some v1
else
f8_otherwiseAcross_17 (f8_otherwiseAcross_56 (f8_otherwiseAcross_4 n)) zfuel v1 v2 (0 : Int32) M
set_option maxRecDepth 20000 in
def f8_otherwiseAcross (M : zM) : Option Int32 :=
f8_otherwiseAcross_4 zfuel (0 : Int32) (0 : Int32) M
set_option maxRecDepth 20000 in
def f8_power_5 : Nat → Int32 → Int32 → Int64 → Int32 → Option Int64
  | 0, _, _, _, _ => none
  | n + 1, v0, v1, v2, v4 => if v1 ≤ v4 then
some v2
else
f8_power_5 n v0 v1 (v2 * (Int32.toInt64 v0)) (v4 + (1 : Int32))
set_option maxRecDepth 20000 in
def f8_power (v0 : Int32) (v1 : Int32) : Option Int64 :=
f8_power_5 zfuel v0 v1 (1 : Int64) (0 : Int32)
set_option maxRecDepth 20000 in
def f8_commonDivisor_45 (v4 : Int64) : Option Int64 :=
some v4
set_option maxRecDepth 20000 in
def f8_commonDivisor_9 : Nat → Int64 → Int64 → Int32 → Option Int64
  | 0, _, _, _ => none
  | n + 1, v4, v6, v8 => if (200 : Int32) ≤ v8 then
f8_commonDivisor_45 v4
else
if (lg_cmp v6 (0 : Int64)) = 0 then
f8_commonDivisor_45 v4
else
(zlmod v4 v6).bind fun x1 =>
f8_commonDivisor_9 n v6 x1 (v8 + (1 : Int32))
set_option maxRecDepth 20000 in
def f8_commonDivisor (v0 : Int64) (v2 : Int64) : Option Int64 :=
f8_commonDivisor_9 zfuel v2 v0 (0 : Int32)
set_option maxRecDepth 20000 in
def f8_share (v0 : Int32) (v1 : Int32) (v2 : Int32) : Option Int32 :=
if v2 < (v0 + v1) then
if v0 = v1 then
some ((v2 / (2 : Int32)) - (1 : Int32))
else
some ((if v1 ≤ v0 then (v2 - (zmin v1 v2)) else (zmin v0 v2)) - (1 : Int32))
else
some v0
set_option maxRecDepth 20000 in
def f8_isBestAgainst_10 : Nat → Int32 → Int32 → Int32 → Int32 → Option Int32
  | 0, _, _, _, _ => none
  | n + 1, v1, v2, v3, v4 => if (9 : Int32) < v4 then
some (1 : Int32)
else
(f8_share v4 v1 v2).bind fun x1 =>
if x1 ≤ v3 then
f8_isBestAgainst_10 n v1 v2 v3 (v4 + (1 : Int32))
else
some (0 : Int32)
set_option maxRecDepth 20000 in
def f8_isBestAgainst (v0 : Int32) (v1 : Int32) (v2 : Int32) : Option Int32 :=
(f8_share v0 v1 v2).bind fun x1 =>
f8_isBestAgainst_10 zfuel v1 v2 x1 (0 : Int32)
set_option maxRecDepth 20000 in
def f8_drawnBelow (v1 : Int32) (M : zM) : Option (Int32 × zM) :=
if v1 ≤ 0 then
some ((0 : Int32), (zsi M 0 12 (((M.1 0 12) * (1103515245 : Int32)) + (12345 : Int32))))
else
(zmod (zushr ((zsi M 0 12 (((M.1 0 12) * (1103515245 : Int32)) + (12345 : Int32))).1 0 12) (16 : Int32)) v1).bind fun x1 =>
some (x1, (zsi M 0 12 (((M.1 0 12) * (1103515245 : Int32)) + (12345 : Int32))))
set_option maxRecDepth 20000 in
def f8_without (v0 : Int32) (v1 : Int32) : Option Int32 :=
some ((v0 &&& ((zshl (1 : Int32) v1) - (1 : Int32))) ||| ((zushr v0 (1 : Int32)) &&& (((zshl (1 : Int32) v1) - (1 : Int32)) ^^^ (-1 : Int32))))
set_option maxRecDepth 20000 in
def f8_with (v0 : Int32) (v1 : Int32) (v2 : Int32) : Option Int32 :=
some (((v0 &&& ((zshl (1 : Int32) v1) - (1 : Int32))) ||| (zshl v2 v1)) ||| (zshl (v0 &&& (((zshl (1 : Int32) v1) - (1 : Int32)) ^^^ (-1 : Int32))) (1 : Int32)))
set_option maxRecDepth 20000 in
def f9_thrown (M : zM) : Option Int32 :=
some (M.1 39 0)
set_option maxRecDepth 20000 in
def f9_refuse (M : zM) : Option (Int32 × zM) :=
some ((0 : Int32), (zsi M 39 0 (1 : Int32)))
set_option maxRecDepth 20000 in
def f9_in (v0 : Int64) (v2 : Int64) (v4 : Int64) : Option Int32 :=
some (if (lg_cmp v0 v2) < 0 then (0 : Int32) else (if 0 < (lg_cmp v0 v4) then (0 : Int32) else (1 : Int32)))
set_option maxRecDepth 20000 in
def f9_has (v0 : Int32) (v1 : Int32) : Option Int32 :=
some (if ((zshr v0 v1) &&& (1 : Int32)) = (1 : Int32) then (1 : Int32) else (0 : Int32))
set_option maxRecDepth 20000 in
def f9_flag (v0 : Int32) : Option Int32 :=
some (if v0 = 0 then (0 : Int32) else (1 : Int32))
def f9_common : Nat → Int64 → Int64 → Option Int64
  | 0, _, _ => none
  | n + 1, v0, v2 => if (lg_cmp v2 (0 : Int64)) = 0 then
some v0
else
(zlmod v0 v2).bind fun x1 =>
(f9_common n v2 x1).bind fun x2 =>
some x2
set_option maxRecDepth 20000 in
def f9_enters (v1 : Int64) (M : zM) : Option zM :=
(zpJ M 24 40 (M.1 39 1) v1).bind fun M1 =>
some (zsi M1 39 1 ((M1.1 39 1) + (1 : Int32)))
set_option maxRecDepth 20000 in
def f9_copies_2 (a0 : Nat) (a1 : Nat) : Nat → Int32 → zM → Option zM
  | 0, _, _ => none
  | n + 1, v2, M => if (9 : Int32) ≤ v2 then
some M
else
(zaI M 9 a1 v2).bind fun x1 =>
(zpI M 9 a0 v2 x1).bind fun M2 =>
f9_copies_2 a0 a1 n (v2 + (1 : Int32)) M2
set_option maxRecDepth 20000 in
def f9_copies (a0 : Nat) (a1 : Nat) (M : zM) : Option zM :=
f9_copies_2 a0 a1 zfuel (0 : Int32) M
set_option maxRecDepth 20000 in
def f9_manyOf (a0 : Nat) (v1 : Int32) (M : zM) : Option Int32 :=
(zaI M 9 a0 ((6 : Int32) + v1)).bind fun x1 =>
some x1
set_option maxRecDepth 20000 in
def f9_cellsOf (a0 : Nat) (v1 : Int32) (M : zM) : Option Int32 :=
(zaI M 9 a0 ((7 : Int32) - v1)).bind fun x1 =>
some x1
set_option maxRecDepth 20000 in
def f9_threadsOf (a0 : Nat) (M : zM) : Option Int32 :=
some ((M.1 a0 6) + (M.1 a0 7))
set_option maxRecDepth 20000 in
def f9_isThread (a0 : Nat) (v1 : Int32) (v2 : Int32) (M : zM) : Option Int32 :=
(f9_in (Int32.toInt64 v1) (0 : Int64) (1 : Int64)).bind fun x1 =>
if x1 = 0 then
some (0 : Int32)
else
(f9_manyOf a0 v1 M).bind fun x2 =>
(f9_in (Int32.toInt64 v2) (0 : Int64) (Int32.toInt64 (x2 - (1 : Int32)))).bind fun x3 =>
some (if x3 = 0 then (0 : Int32) else (1 : Int32))
set_option maxRecDepth 20000 in
def f9_full (v0 : Int32) : Option Int32 :=
some ((zshl (1 : Int32) v0) - (1 : Int32))
set_option maxRecDepth 20000 in
def f9_bitsOf_13 (a0 : Nat) : Nat → Int32 → Int32 → Int32 → zM → Option Int32
  | 0, _, _, _, _ => none
  | n + 1, v2, v3, v4, M => if (M.1 a0 6) ≤ v4 then
some v3
else
(zaI M 9 a0 v4).bind fun x1 =>
(f9_has x1 v2).bind fun x2 =>
f9_bitsOf_13 a0 n v2 (v3 ||| (if x2 = 0 then (zshl (1 : Int32) v4) else (0 : Int32))) (v4 + (1 : Int32)) M
set_option maxRecDepth 20000 in
def f9_bitsOf (a0 : Nat) (v1 : Int32) (v2 : Int32) (M : zM) : Option Int32 :=
if v1 = 0 then
(zaI M 9 a0 v2).bind fun x1 =>
some x1
else
f9_bitsOf_13 a0 zfuel v2 (0 : Int32) (0 : Int32) M
set_option maxRecDepth 20000 in
def f9_changesOf_4 : Nat → Int32 → Int32 → Int32 → Int32 → Option Int32
  | 0, _, _, _, _ => none
  | n + 1, v0, v1, v2, v3 => if v1 ≤ v3 then
some v2
else
(f9_has v0 v3).bind fun x1 =>
(f9_has v0 (v3 - (1 : Int32))).bind fun x2 =>
(f9_flag (if x1 = x2 then (0 : Int32) else (1 : Int32))).bind fun x3 =>
f9_changesOf_4 n v0 v1 (v2 + x3) (v3 + (1 : Int32))
set_option maxRecDepth 20000 in
def f9_changesOf (v0 : Int32) (v1 : Int32) : Option Int32 :=
f9_changesOf_4 zfuel v0 v1 (0 : Int32) (1 : Int32)
set_option maxRecDepth 20000 in
def f9_alike_43 (a0 : Nat) (k5 : Int32 → Int32 → Int32 → Int32 → zM → Option Int32) (v1 : Int32) (v2 : Int32) (v4 : Int32) (s0 : Int32) (s1 : Int32) (M : zM) : Option Int32 :=
(f9_flag s1).bind fun x1 =>
k5 v1 v2 (s0 + x1) (v4 + (1 : Int32)) M
set_option maxRecDepth 20000 in
def f9_alike_5 (a0 : Nat) : Nat → Int32 → Int32 → Int32 → Int32 → zM → Option Int32
  | 0, _, _, _, _, _ => none
  | n + 1, v1, v2, v3, v4, M => (f9_manyOf a0 v1 M).bind fun x1 =>
if x1 ≤ v4 then
some v3
else
if v4 = v2 then
f9_alike_43 a0 (f9_alike_5 a0 n) v1 v2 v4 v3 (0 : Int32) M
else
(f9_bitsOf a0 v1 v4 M).bind fun x2 =>
(f9_bitsOf a0 v1 v2 M).bind fun x3 =>
f9_alike_43 a0 (f9_alike_5 a0 n) v1 v2 v4 v3 (if x2 = x3 then (1 : Int32) else (0 : Int32)) M
set_option maxRecDepth 20000 in
def f9_alike (a0 : Nat) (v1 : Int32) (v2 : Int32) (M : zM) : Option Int32 :=
f9_alike_5 a0 zfuel v1 v2 (0 : Int32) (0 : Int32) M
set_option maxRecDepth 20000 in
def f9_isLoose (a0 : Nat) (v1 : Int32) (v2 : Int32) (M : zM) : Option Int32 :=
(f9_bitsOf a0 v1 v2 M).bind fun x1 =>
if x1 = 0 then
some (1 : Int32)
else
(f9_cellsOf a0 v1 M).bind fun x2 =>
(f9_full x2).bind fun x3 =>
some (if x1 = x3 then (1 : Int32) else (0 : Int32))
set_option maxRecDepth 20000 in
def f9_overs_4 (a0 : Nat) : Nat → Int32 → Int32 → zM → Option Int32
  | 0, _, _, _ => none
  | n + 1, v1, v2, M => if (M.1 a0 6) ≤ v2 then
some v1
else
(zaI M 9 a0 v2).bind fun x1 =>
(fJ6_bitCount x1).bind fun x2 =>
f9_overs_4 a0 n (v1 + x2) (v2 + (1 : Int32)) M
set_option maxRecDepth 20000 in
def f9_overs (a0 : Nat) (M : zM) : Option Int32 :=
f9_overs_4 a0 zfuel (0 : Int32) (0 : Int32) M
set_option maxRecDepth 20000 in
def f9_isAs_30 (a0 : Nat) (a1 : Nat) : Nat → Int32 → Int32 → zM → Option Int32
  | 0, _, _, _ => none
  | n + 1, v2, v3, M => if (M.1 a0 6) ≤ v3 then
(zbl v2).bind fun x1 =>
some v2
else
if v2 = 0 then
(zbl v2).bind fun x1 =>
some v2
else
(zaI M 9 a0 v3).bind fun x1 =>
(zaI M 9 a1 v3).bind fun x2 =>
f9_isAs_30 a0 a1 n (if x1 = x2 then (1 : Int32) else (0 : Int32)) (v3 + (1 : Int32)) M
set_option maxRecDepth 20000 in
def f9_isAs (a0 : Nat) (a1 : Nat) (M : zM) : Option Int32 :=
f9_isAs_30 a0 a1 zfuel (if (M.1 a0 6) = (M.1 a1 6) then (if (M.1 a0 7) = (M.1 a1 7) then (1 : Int32) else (0 : Int32)) else (0 : Int32)) (0 : Int32) M
set_option maxRecDepth 20000 in
def f9_without (v0 : Int32) (v1 : Int32) : Option Int32 :=
(f9_full v1).bind fun x1 =>
some ((v0 &&& x1) ||| (zshl (zshr v0 (v1 + (1 : Int32))) v1))
set_option maxRecDepth 20000 in
def f9_with (v0 : Int32) (v1 : Int32) (v2 : Int32) : Option Int32 :=
(f9_full v1).bind fun x1 =>
some (((v0 &&& x1) ||| (zshl v2 v1)) ||| (zshl (zshr v0 v1) (v1 + (1 : Int32))))
set_option maxRecDepth 20000 in
def f9_goes_59 (a0 : Nat) (v1 : Int32) (M : zM) : Option zM :=
(zaI M 9 a0 ((6 : Int32) + v1)).bind fun x1 =>
(zpI M 9 a0 ((6 : Int32) + v1) (x1 - (1 : Int32))).bind fun M2 =>
some M2
set_option maxRecDepth 20000 in
def f9_goes_8 (a0 : Nat) : Nat → Int32 → Int32 → zM → Option zM
  | 0, _, _, _ => none
  | n + 1, v1, v3, M => if (M.1 a0 6) ≤ v3 then
f9_goes_59 a0 v1 M
else
(zaI M 9 a0 v3).bind fun x1 =>
(zpI M 9 a0 (v3 - (1 : Int32)) x1).bind fun M2 =>
f9_goes_8 a0 n v1 (v3 + (1 : Int32)) M2
set_option maxRecDepth 20000 in
def f9_goes_35 (a0 : Nat) : Nat → Int32 → Int32 → Int32 → zM → Option zM
  | 0, _, _, _, _ => none
  | n + 1, v1, v2, v3, M => if (M.1 a0 6) ≤ v3 then
f9_goes_59 a0 v1 M
else
(zaI M 9 a0 v3).bind fun x1 =>
(f9_without x1 v2).bind fun x2 =>
(zpI M 9 a0 v3 x2).bind fun M3 =>
f9_goes_35 a0 n v1 v2 (v3 + (1 : Int32)) M3
set_option maxRecDepth 20000 in
def f9_goes (a0 : Nat) (v1 : Int32) (v2 : Int32) (M : zM) : Option zM :=
if v1 = 0 then
f9_goes_8 a0 zfuel v1 (v2 + (1 : Int32)) M
else
f9_goes_35 a0 zfuel v1 v2 (0 : Int32) M
set_option maxRecDepth 20000 in
def f9_comes_86 (a0 : Nat) (v1 : Int32) (M : zM) : Option zM :=
(zaI M 9 a0 ((6 : Int32) + v1)).bind fun x1 =>
(zpI M 9 a0 ((6 : Int32) + v1) (x1 + (1 : Int32))).bind fun M2 =>
some M2
set_option maxRecDepth 20000 in
def f9_comes_10 (a0 : Nat) : Nat → Int32 → Int32 → Int32 → Int32 → zM → Option zM
  | 0, _, _, _, _, _ => none
  | n + 1, v1, v2, v3, v4, M => if v4 ≤ v2 then
(zpI M 9 a0 v2 v3).bind fun M1 =>
f9_comes_86 a0 v1 M1
else
(zaI M 9 a0 (v4 - (1 : Int32))).bind fun x1 =>
(zpI M 9 a0 v4 x1).bind fun M2 =>
f9_comes_10 a0 n v1 v2 v3 (v4 + (-1 : Int32)) M2
set_option maxRecDepth 20000 in
def f9_comes_42 (a0 : Nat) : Nat → Int32 → Int32 → Int32 → Int32 → zM → Option zM
  | 0, _, _, _, _, _ => none
  | n + 1, v1, v2, v3, v4, M => if (M.1 a0 6) ≤ v4 then
f9_comes_86 a0 v1 M
else
(zaI M 9 a0 v4).bind fun x1 =>
(f9_has v3 v4).bind fun x2 =>
(f9_flag (if x2 = 0 then (1 : Int32) else (0 : Int32))).bind fun x3 =>
(f9_with x1 v2 x3).bind fun x4 =>
(zpI M 9 a0 v4 x4).bind fun M5 =>
f9_comes_42 a0 n v1 v2 v3 (v4 + (1 : Int32)) M5
set_option maxRecDepth 20000 in
def f9_comes (a0 : Nat) (v1 : Int32) (v2 : Int32) (v3 : Int32) (M : zM) : Option zM :=
if v1 = 0 then
f9_comes_10 a0 zfuel v1 v2 v3 (M.1 a0 6) M
else
f9_comes_42 a0 zfuel v1 v2 v3 (0 : Int32) M
set_option maxRecDepth 20000 in
def f9_sign_18 : Nat → Int32 → Int32 → zM → Option (Int32 × zM)
  | 0, _, _, _ => none
  | n + 1, v1, v2, M => if (4 : Int32) ≤ v2 then
some (((zsi M 39 7 ((M.1 39 7) + (4 : Int32))).1 39 7), (zsi M 39 7 ((M.1 39 7) + (4 : Int32))))
else
(zpI M 80 43 ((M.1 39 7) + v2) ((zshr v1 ((24 : Int32) - ((8 : Int32) * v2))) &&& (255 : Int32))).bind fun M1 =>
f9_sign_18 n v1 (v2 + (1 : Int32)) M1
set_option maxRecDepth 20000 in
def f9_sign (v1 : Int32) (M : zM) : Option (Int32 × zM) :=
if ((zsi M 39 0 (0 : Int32)).1 39 7) ≤ (76 : Int32) then
f9_sign_18 zfuel v1 (0 : Int32) (zsi M 39 0 (0 : Int32))
else
some ((-1 : Int32), (zsi M 39 0 (0 : Int32)))
set_option maxRecDepth 20000 in
def f9_end (v1 : Int32) (M : zM) : Option (Int32 × zM) :=
(f9_in (Int32.toInt64 v1) (0 : Int64) (Int32.toInt64 ((zsi M 39 0 (0 : Int32)).1 39 7))).bind fun x1 =>
if x1 = 0 then
some ((0 : Int32), (zsi M 39 0 (0 : Int32)))
else
some ((1 : Int32), (zsi (zsi M 39 0 (0 : Int32)) 39 7 v1))
set_option maxRecDepth 20000 in
def f9_begins (v1 : Int32) (M : zM) : Option (Int32 × zM) :=
some ((M.1 39 7), (zsi (zsi (zsi (zsi M 39 7 (0 : Int32)) 39 8 (0 : Int32)) 39 10 (0 : Int32)) 39 9 (zmin (M.1 39 7) v1)))
set_option maxRecDepth 20000 in
def f9_takes_29 (s0 : Int32) (M : zM) : Option (Int32 × zM) :=
(f9_flag s0).bind fun x1 =>
(zbl s0).bind fun x2 =>
some (s0, (zsi M 39 8 ((M.1 39 8) + x1)))
set_option maxRecDepth 20000 in
def f9_takes (v1 : Int32) (M : zM) : Option (Int32 × zM) :=
if (M.1 39 9) ≤ (M.1 39 8) then
f9_takes_29 (0 : Int32) M
else
(zaI M 80 43 (M.1 39 8)).bind fun x1 =>
f9_takes_29 (if x1 = v1 then (1 : Int32) else (0 : Int32)) M
set_option maxRecDepth 20000 in
def f9_isDigit (M : zM) : Option Int32 :=
if (M.1 39 9) ≤ (M.1 39 8) then
some (0 : Int32)
else
(zaI M 80 43 (M.1 39 8)).bind fun x1 =>
(f9_in (Int32.toInt64 x1) (48 : Int64) (57 : Int64)).bind fun x2 =>
some (if x2 = 0 then (0 : Int32) else (1 : Int32))
set_option maxRecDepth 20000 in
def f9_takesOf_2 : Nat → Nat → Int32 → zM → Option (Int32 × zM)
  | 0, _, _, _ => none
  | n + 1, v1, v2, M => (zslen v1).bind fun x1 =>
if x1 ≤ v2 then
some ((-1 : Int32), M)
else
if (M.1 39 9) ≤ (M.1 39 8) then
some ((-1 : Int32), M)
else
(zschr v1 v2).bind fun x2 =>
(zaI M 80 43 (M.1 39 8)).bind fun x3 =>
if x2 = x3 then
some (v2, (zsi M 39 8 ((M.1 39 8) + (1 : Int32))))
else
f9_takesOf_2 n v1 (v2 + (1 : Int32)) M
set_option maxRecDepth 20000 in
def f9_takesOf (v1 : Nat) (M : zM) : Option (Int32 × zM) :=
f9_takesOf_2 zfuel v1 (0 : Int32) M
set_option maxRecDepth 20000 in
def f9_number_13 : Nat → Int32 → Int32 → Int32 → zM → Option (Int32 × zM)
  | 0, _, _, _, _ => none
  | n + 1, v1, v2, v3, M => if v1 ≤ v3 then
some (v2, M)
else
(f9_isDigit M).bind fun x1 =>
if x1 = 0 then
some (v2, M)
else
(zaI M 80 43 (M.1 39 8)).bind fun x2 =>
f9_number_13 n v1 ((((10 : Int32) * v2) + x2) - (48 : Int32)) (v3 + (1 : Int32)) (zsi M 39 8 ((M.1 39 8) + (1 : Int32)))
set_option maxRecDepth 20000 in
def f9_number (v1 : Int32) (M : zM) : Option (Int32 × zM) :=
(f9_isDigit M).bind fun x1 =>
if x1 = 0 then
some ((-1 : Int32), M)
else
f9_number_13 zfuel v1 (0 : Int32) (0 : Int32) M
set_option maxRecDepth 20000 in
def f9_digitIn (v1 : Int32) (v2 : Int32) (M : zM) : Option (Int32 × zM) :=
if (M.1 39 9) ≤ (M.1 39 8) then
some ((-1 : Int32), M)
else
(zaI M 80 43 (M.1 39 8)).bind fun x1 =>
(f9_in (Int32.toInt64 (x1 - (48 : Int32))) (Int32.toInt64 v1) (Int32.toInt64 v2)).bind fun x2 =>
if x2 = 0 then
some ((-1 : Int32), M)
else
(zaI (zsi M 39 8 ((M.1 39 8) + (1 : Int32))) 80 43 (((zsi M 39 8 ((M.1 39 8) + (1 : Int32))).1 39 8) - (1 : Int32))).bind fun x3 =>
some ((x3 - (48 : Int32)), (zsi M 39 8 ((M.1 39 8) + (1 : Int32))))
set_option maxRecDepth 20000 in
def f9_faultOf_40 (v2 : Int32) (M : zM) : Option Int32 :=
some ((-1 : Int32) - v2)
set_option maxRecDepth 20000 in
def f9_faultOf_44 (v4 : Int32) (M : zM) : Option Int32 :=
some (if v4 = 0 then ((-1 : Int32) - (M.1 39 8)) else (0 : Int32))
set_option maxRecDepth 20000 in
def f9_faultOf (v1 : Int32) (v2 : Int32) (v3 : Int32) (M : zM) : Option Int32 :=
if v1 ≤ v2 then
f9_faultOf_44 (if v3 = 0 then (0 : Int32) else (if (M.1 39 8) = (M.1 39 9) then (1 : Int32) else (0 : Int32))) M
else
if (if v3 = 0 then (0 : Int32) else (if (M.1 39 8) = (M.1 39 9) then (1 : Int32) else (0 : Int32))) = 0 then
if (M.1 39 8) < v2 then
f9_faultOf_44 (if v3 = 0 then (0 : Int32) else (if (M.1 39 8) = (M.1 39 9) then (1 : Int32) else (0 : Int32))) M
else
f9_faultOf_40 v2 M
else
f9_faultOf_40 v2 M
