set_option maxRecDepth 20000 in
def f8_again (v1 : Int32) (M : zM) : Option (Int32 × zM) :=
(f2_holds 36 3 v1 M).bind fun x1 =>
if x1 = 0 then
some ((0 : Int32), M)
else
(f2_bringBack 36 3 v1 1 M).bind fun M2 =>
(f2_empty 33 15 M2).bind fun M3 =>
some ((1 : Int32), M3)
set_option maxRecDepth 20000 in
def f8_noted (v1 : Int32) (v2 : Int64) (v4 : Int32) (M : zM) : Option (Int32 × zM) :=
if v1 < 0 then
some (v1, M)
else
(f2_push 33 15 v2 v4 M).bind fun M1 =>
some (v1, M1)
set_option maxRecDepth 20000 in
def f8_ragsWithout_85 (k26 : Int32 → Int32 → Int64 → Int32 → Int32 → zM → Option (Int32 × zM)) (v1 : Int32) (v2 : Int32) (v3 : Int64) (v5 : Int32) (v6 : Int32) (M : zM) : Option (Int32 × zM) :=
k26 v1 v2 v3 v5 (v6 + (1 : Int32)) M
set_option maxRecDepth 20000 in
def f8_ragsWithout_82 (k26 : Int32 → Int32 → Int64 → Int32 → Int32 → zM → Option (Int32 × zM)) (v1 : Int32) (v2 : Int32) (v3 : Int64) (v5 : Int32) (v6 : Int32) (M : zM) : Option (Int32 × zM) :=
f8_ragsWithout_85 k26 v1 v2 v3 (v5 + (1 : Int32)) v6 M
set_option maxRecDepth 20000 in
def f8_ragsWithout_26 : Nat → Int32 → Int32 → Int64 → Int32 → Int32 → zM → Option (Int32 × zM)
  | 0, _, _, _, _, _, _ => none
  | n + 1, v1, v2, v3, v5, v6, M => if (zshl (1 : Int32) (M.1 1 0)) ≤ v6 then
some (v5, M)
else
(f1_shapeWithout 1 v6 M).bind fun x1 =>
if (lg_cmp x1 v3) = 0 then
if v2 = 0 then
f8_ragsWithout_82 (f8_ragsWithout_26 n) v1 v2 v3 v5 v6 M
else
if v5 = 0 then
(f3_tell (Int32.toInt64 (v6 ||| (zshl v1 (6 : Int32)))) M).bind fun M2 =>
f8_ragsWithout_82 (f8_ragsWithout_26 n) v1 v2 v3 v5 v6 M2
else
f8_ragsWithout_82 (f8_ragsWithout_26 n) v1 v2 v3 v5 v6 M
else
f8_ragsWithout_85 (f8_ragsWithout_26 n) v1 v2 v3 v5 v6 M
set_option maxRecDepth 20000 in
def f8_ragsWithout (v1 : Int32) (v2 : Int32) (M : zM) : Option (Int32 × zM) :=
(f1_narrow 1 v1 M).bind fun M1 =>
(f7_shape 3 M1).bind fun x2 =>
f8_ragsWithout_26 zfuel v1 v2 x2 (0 : Int32) (0 : Int32) M1
set_option maxRecDepth 20000 in
def f8_canBeAlike_31 (k70 : Int32 → Int32 → Int32 → zM → Option Int32) : Nat → Int32 → Int32 → Int32 → Int32 → Int32 → zM → Option Int32
  | 0, _, _, _, _, _, _ => none
  | n + 1, v1, v2, v3, v4, v5, M => if (M.1 1 1) ≤ v5 then
k70 v1 v2 v3 M
else
(f7_cellsOf 1 (0 : Int32) v2 M).bind fun x1 =>
(f8_without x1 v5).bind fun x2 =>
if v4 = x2 then
some (1 : Int32)
else
f8_canBeAlike_31 k70 n v1 v2 v3 v4 (v5 + (1 : Int32)) M
set_option maxRecDepth 20000 in
def f8_canBeAlike_70 (k2 : Int32 → Int32 → Int32 → zM → Option Int32) (v1 : Int32) (v2 : Int32) (v3 : Int32) (M : zM) : Option Int32 :=
k2 v1 v2 (v3 + (1 : Int32)) M
set_option maxRecDepth 20000 in
def f8_canBeAlike_2 : Nat → Int32 → Int32 → Int32 → zM → Option Int32
  | 0, _, _, _, _ => none
  | n + 1, v1, v2, v3, M => if (M.1 1 1) ≤ v3 then
some (0 : Int32)
else
(f7_cellsOf 1 (0 : Int32) v1 M).bind fun x1 =>
(f8_without x1 v3).bind fun x2 =>
f8_canBeAlike_31 (f8_canBeAlike_70 (f8_canBeAlike_2 n)) zfuel v1 v2 v3 x2 (0 : Int32) M
set_option maxRecDepth 20000 in
def f8_canBeAlike (v1 : Int32) (v2 : Int32) (M : zM) : Option Int32 :=
f8_canBeAlike_2 zfuel v1 v2 (0 : Int32) M
set_option maxRecDepth 20000 in
def f8_weaveDrawn (M : zM) : Option zM :=
(f8_drawnBelow (2 : Int32) M).bind fun p1 =>
(f7_sizeOf 3 p1.1 p1.2).bind fun x2 =>
(f8_drawnBelow (x2 + (1 : Int32)) p1.2).bind fun p3 =>
(f8_drawnBelow (64 : Int32) p3.2).bind fun p4 =>
(f7_fullOf 3 p1.1 p4.2).bind fun x5 =>
(f7_weaveIn 3 p1.1 p3.1 (p4.1 &&& x5) p4.2).bind fun p6 =>
some p6.2
set_option maxRecDepth 20000 in
def f4_readFrom_94 (a0 : Nat) (k52 : Int32 → Int32 → zM → Option (Int32 × zM)) (v2 : Int32) (v3 : Int32) (M : zM) : Option (Int32 × zM) :=
k52 v2 (v3 + (1 : Int32)) M
set_option maxRecDepth 20000 in
def f4_readFrom_52 (a0 : Nat) : Nat → Int32 → Int32 → zM → Option (Int32 × zM)
  | 0, _, _, _ => none
  | n + 1, v2, v3, M => if v2 ≤ v3 then
if (M.1 7 1) ≤ (40 : Int32) then
if (M.1 a0 7) = 0 then
if (M.1 a0 5) ≤ 0 then
(f4_release a0 (1 : Int32) M).bind fun M1 =>
some ((-1 : Int32), M1)
else
some ((M.1 7 1), M)
else
some ((M.1 7 1), M)
else
some ((40 : Int32), M)
else
(f6_at v3 M).bind fun x1 =>
if (M.1 a0 7) = 0 then
(f4_takesJoin a0 x1 M).bind fun p2 =>
if p2.1 = 0 then
some (v3, p2.2)
else
f4_readFrom_94 a0 (f4_readFrom_52 a0 n) v2 v3 p2.2
else
(f4_takesThing a0 x1 M).bind fun p2 =>
if p2.1 = 0 then
some (v3, p2.2)
else
f4_readFrom_94 a0 (f4_readFrom_52 a0 n) v2 v3 p2.2
set_option maxRecDepth 20000 in
def f4_readFrom (a0 : Nat) (M : zM) : Option (Int32 × zM) :=
(zpZ (zsi (zsi (zsi M a0 1 (0 : Int32)) a0 3 (0 : Int32)) a0 5 (0 : Int32)) 5 (a0 + 3) (0 : Int32) (0 : Int32)).bind fun M1 =>
if ((zsi M1 a0 7 (1 : Int32)).1 7 1) = 0 then
(f4_putPlainRule a0 (zsi M1 a0 7 (1 : Int32))).bind fun M2 =>
some ((-1 : Int32), M2)
else
f4_readFrom_52 a0 zfuel (zmin ((zsi M1 a0 7 (1 : Int32)).1 7 1) (40 : Int32)) (0 : Int32) (zsi M1 a0 7 (1 : Int32))
set_option maxRecDepth 20000 in
def f4_pullOf_163 (a0 : Nat) (a1 : Nat) (k6 : Int32 → Int32 → Int32 → Int32 → zM → Option (Int32 × zM)) (v2 : Int32) (v3 : Int32) (v4 : Int32) (v5 : Int32) (M : zM) : Option (Int32 × zM) :=
k6 v2 v3 v4 (v5 + (1 : Int32)) M
set_option maxRecDepth 20000 in
def f4_pullOf_77 (a0 : Nat) (a1 : Nat) (k6 : Int32 → Int32 → Int32 → Int32 → zM → Option (Int32 × zM)) (v2 : Int32) (v3 : Int32) (v4 : Int32) (v5 : Int32) (s1 : Int32) (s2 : Int32) (M : zM) : Option (Int32 × zM) :=
(zpI M 40 (a0 + 4) s1 s2).bind fun M1 =>
f4_pullOf_163 a0 a1 k6 v2 v3 (v4 + (1 : Int32)) v5 M1
set_option maxRecDepth 20000 in
def f4_pullOf_120 (a0 : Nat) (a1 : Nat) (k6 : Int32 → Int32 → Int32 → Int32 → zM → Option (Int32 × zM)) (v2 : Int32) (v3 : Int32) (v4 : Int32) (v5 : Int32) (v6 : Int32) (M : zM) : Option (Int32 × zM) :=
if v4 < (2 : Int32) then
f4_pullOf_163 a0 a1 k6 v2 v3 v4 v5 M
else
(zaI M 40 (a0 + 4) ((v4 + (-1 : Int32)) - (1 : Int32))).bind fun x1 =>
(zaI M 40 (a0 + 4) (v4 + (-1 : Int32))).bind fun x2 =>
(f4_joined (v6 - (1000 : Int32)) x1 x2).bind fun x3 =>
(zpI M 40 (a0 + 4) ((v4 + (-1 : Int32)) - (1 : Int32)) x3).bind fun M4 =>
f4_pullOf_163 a0 a1 k6 v2 v3 (v4 + (-1 : Int32)) v5 M4
set_option maxRecDepth 20000 in
def f4_pullOf_84 (a0 : Nat) (a1 : Nat) (k6 : Int32 → Int32 → Int32 → Int32 → zM → Option (Int32 × zM)) (v2 : Int32) (v3 : Int32) (v4 : Int32) (v5 : Int32) (v6 : Int32) (M : zM) : Option (Int32 × zM) :=
if v6 = (1256 : Int32) then
if v4 < (1 : Int32) then
f4_pullOf_120 a0 a1 k6 v2 v3 v4 v5 v6 M
else
(zaI M 40 (a0 + 4) (v4 - (1 : Int32))).bind fun x1 =>
(zpI M 40 (a0 + 4) (v4 - (1 : Int32)) (-x1)).bind fun M2 =>
f4_pullOf_163 a0 a1 k6 v2 v3 v4 v5 M2
else
f4_pullOf_120 a0 a1 k6 v2 v3 v4 v5 v6 M
set_option maxRecDepth 20000 in
def f4_pullOf_6 (a0 : Nat) (a1 : Nat) : Nat → Int32 → Int32 → Int32 → Int32 → zM → Option (Int32 × zM)
  | 0, _, _, _, _, _ => none
  | n + 1, v2, v3, v4, v5, M => if (M.1 a0 1) ≤ v5 then
some ((zmax (-99 : Int32) (zmin (99 : Int32) (M.1 (a0 + 4) 0))), M)
else
(zaI M 40 (a0 + 1) v5).bind fun x1 =>
(f4_bindingOf x1).bind fun x2 =>
if x2 = 0 then
if (40 : Int32) ≤ v4 then
f4_pullOf_84 a0 a1 (f4_pullOf_6 a0 a1 n) v2 v3 v4 v5 x1 M
else
if (1000 : Int32) ≤ x1 then
(f4_traitOf (x1 - (1000 : Int32)) a1 v2 v3 M).bind fun x3 =>
f4_pullOf_77 a0 a1 (f4_pullOf_6 a0 a1 n) v2 v3 v4 v5 v4 x3 M
else
f4_pullOf_77 a0 a1 (f4_pullOf_6 a0 a1 n) v2 v3 v4 v5 v4 x1 M
else
f4_pullOf_84 a0 a1 (f4_pullOf_6 a0 a1 n) v2 v3 v4 v5 x1 M
set_option maxRecDepth 20000 in
def f4_pullOf (a0 : Nat) (a1 : Nat) (v2 : Int32) (v3 : Int32) (M : zM) : Option (Int32 × zM) :=
f4_pullOf_6 a0 a1 zfuel v2 v3 (0 : Int32) (0 : Int32) M
set_option maxRecDepth 20000 in
def f4_goesOf_57 (a0 : Nat) (a1 : Nat) (k17 : Int32 → Int32 → Int32 → Int32 → zM → Option (Int32 × zM)) (v2 : Int32) (v3 : Int32) (v4 : Int32) (v5 : Int32) (M : zM) : Option (Int32 × zM) :=
k17 v2 v3 v4 (v5 + (1 : Int32)) M
set_option maxRecDepth 20000 in
def f4_goesOf_17 (a0 : Nat) (a1 : Nat) (k63 : Int32 → Int32 → Int32 → zM → Option (Int32 × zM)) : Nat → Int32 → Int32 → Int32 → Int32 → zM → Option (Int32 × zM)
  | 0, _, _, _, _, _ => none
  | n + 1, v2, v3, v4, v5, M => (f7_sizeOf a1 v4 M).bind fun x1 =>
if x1 ≤ v5 then
k63 v2 v3 v4 M
else
(f4_pullOf a0 a1 v4 v5 M).bind fun p2 =>
if p2.1 ≤ v2 then
f4_goesOf_57 a0 a1 (f4_goesOf_17 a0 a1 k63 n) v2 v3 v4 v5 p2.2
else
f4_goesOf_57 a0 a1 (f4_goesOf_17 a0 a1 k63 n) p2.1 (((6 : Int32) * v4) + v5) v4 v5 p2.2
set_option maxRecDepth 20000 in
def f4_goesOf_63 (a0 : Nat) (a1 : Nat) (k8 : Int32 → Int32 → Int32 → zM → Option (Int32 × zM)) (v2 : Int32) (v3 : Int32) (v4 : Int32) (M : zM) : Option (Int32 × zM) :=
k8 v2 v3 (v4 + (1 : Int32)) M
set_option maxRecDepth 20000 in
def f4_goesOf_8 (a0 : Nat) (a1 : Nat) : Nat → Int32 → Int32 → Int32 → zM → Option (Int32 × zM)
  | 0, _, _, _, _ => none
  | n + 1, v2, v3, v4, M => if (1 : Int32) < v4 then
(f7_sizeOf a1 (v3 / (6 : Int32)) M).bind fun x1 =>
some ((if x1 ≤ (1 : Int32) then (-2 : Int32) else v3), M)
else
f4_goesOf_17 a0 a1 (f4_goesOf_63 a0 a1 (f4_goesOf_8 a0 a1 n)) zfuel v2 v3 v4 (0 : Int32) M
set_option maxRecDepth 20000 in
def f4_goesOf (a0 : Nat) (a1 : Nat) (M : zM) : Option (Int32 × zM) :=
f4_goesOf_8 a0 a1 zfuel (-100 : Int32) (0 : Int32) (0 : Int32) M
set_option maxRecDepth 20000 in
def f5_those_50 (a3 : Nat) (k6 : Int32 → Int32 → Int32 → Int32 → Int32 → zM → Option Int32) (v0 : Int32) (v1 : Int32) (v2 : Int32) (v4 : Int32) (v5 : Int32) (M : zM) : Option Int32 :=
k6 v0 v1 v2 v4 (v5 + (1 : Int32)) M
set_option maxRecDepth 20000 in
def f5_those_6 (a3 : Nat) : Nat → Int32 → Int32 → Int32 → Int32 → Int32 → zM → Option Int32
  | 0, _, _, _, _, _, _ => none
  | n + 1, v0, v1, v2, v4, v5, M => if (12 : Int32) ≤ v5 then
some v4
else
if ((zushr v0 v5) &&& (1 : Int32)) = 0 then
f5_those_50 a3 (f5_those_6 a3 n) v0 v1 v2 v4 v5 M
else
(f5_isSo v1 v2 a3 (v5 / (6 : Int32)) (zrem v5 (6 : Int32)) M).bind fun x1 =>
if x1 = 0 then
f5_those_50 a3 (f5_those_6 a3 n) v0 v1 v2 v4 v5 M
else
f5_those_50 a3 (f5_those_6 a3 n) v0 v1 v2 (v4 ||| (zshl (1 : Int32) v5)) v5 M
set_option maxRecDepth 20000 in
def f5_those (v0 : Int32) (v1 : Int32) (v2 : Int32) (a3 : Nat) (M : zM) : Option Int32 :=
f5_those_6 a3 zfuel v0 v1 v2 (0 : Int32) (0 : Int32) M
set_option maxRecDepth 20000 in
def f5_fitting_7 (a1 : Nat) : Nat → Int32 → Int32 → zM → Option Int32
  | 0, _, _, _ => none
  | n + 1, v2, v3, M => if (M.1 30 2) ≤ v3 then
some v2
else
(zaI M 12 31 v3).bind fun x1 =>
(zaI M 12 32 v3).bind fun x2 =>
(f5_those v2 x1 x2 a1 M).bind fun x3 =>
f5_fitting_7 a1 n x3 (v3 + (1 : Int32)) M
set_option maxRecDepth 20000 in
def f5_fitting (a1 : Nat) (M : zM) : Option Int32 :=
(f7_all a1 M).bind fun x1 =>
f5_fitting_7 a1 zfuel x1 (0 : Int32) M
set_option maxRecDepth 20000 in
def f8_rule (M : zM) : Option (Int32 × zM) :=
(f4_readFrom 16 M).bind fun p1 =>
if p1.1 = (-1 : Int32) then
(f4_become 11 16 (zsi p1.2 7 1 (0 : Int32))).bind fun M2 =>
some ((0 : Int32), M2)
else
some (((-1 : Int32) - p1.1), (zsi p1.2 7 1 (0 : Int32)))
set_option maxRecDepth 20000 in
def f8_thread (v1 : Int32) (v2 : Int32) (v3 : Int32) (M : zM) : Option (Int32 × zM) :=
(f7_has 1 v1 v2 M).bind fun x1 =>
if x1 = 0 then
none
else
if v3 < 0 then
none
else
if v3 ≤ (4 : Int32) then
if v3 = (0 : Int32) then
(f7_cellsOf 1 v1 v2 M).bind fun x2 =>
some (x2, M)
else
if v3 = (1 : Int32) then
(f7_changesOf 1 v1 v2 M).bind fun x2 =>
some (x2, M)
else
if v3 = (2 : Int32) then
(f7_likesOf 1 v1 v2 M).bind fun x2 =>
some (x2, M)
else
if v3 = (3 : Int32) then
(f7_isLoose 1 v1 v2 M).bind fun x2 =>
some ((if x2 = 0 then (0 : Int32) else (1 : Int32)), M)
else
(f4_pullOf 11 1 v1 v2 M).bind fun p2 =>
some (((100 : Int32) + p2.1), p2.2)
else
none
set_option maxRecDepth 20000 in
def f8_weaves (v1 : Int32) (v2 : Int32) (v3 : Int32) (M : zM) : Option (Int32 × zM) :=
(f7_shape 1 M).bind fun x1 =>
(f7_weaveIn 1 v1 v2 v3 M).bind fun p2 =>
(f8_noted p2.1 x1 (p2.2.1 1 2) p2.2).bind fun p3 =>
some (p3.1, p3.2)
set_option maxRecDepth 20000 in
def f8_draws (v1 : Int32) (v2 : Int32) (M : zM) : Option (Int32 × zM) :=
(f7_shape 1 M).bind fun x1 =>
(f7_drawOut 1 v1 v2 M).bind fun p2 =>
(f8_noted p2.1 x1 (p2.2.1 1 2) p2.2).bind fun p3 =>
some (p3.1, p3.2)
set_option maxRecDepth 20000 in
def f8_flips (v1 : Int32) (v2 : Int32) (M : zM) : Option (Int32 × zM) :=
(f7_shape 1 M).bind fun x1 =>
(f7_turnCell 1 v1 v2 M).bind fun p2 =>
(f8_noted p2.1 x1 (p2.2.1 1 2) p2.2).bind fun p3 =>
some (p3.1, p3.2)
set_option maxRecDepth 20000 in
def f8_mirrors (v1 : Int32) (M : zM) : Option (Int32 × zM) :=
(f7_shape 1 M).bind fun x1 =>
(f7_turnRound 1 v1 M).bind fun p2 =>
(f8_noted p2.1 x1 (p2.2.1 1 2) p2.2).bind fun p3 =>
some (p3.1, p3.2)
set_option maxRecDepth 20000 in
def f8_next (M : zM) : Option (Int32 × zM) :=
(f4_goesOf 11 1 M).bind fun p1 =>
if 0 ≤ p1.1 then
(f4_pullOf 11 1 (p1.1 / (6 : Int32)) (zrem p1.1 (6 : Int32)) p1.2).bind fun p2 =>
(f3_tell (Int32.toInt64 ((100 : Int32) + p2.1)) p2.2).bind fun M3 =>
some (p1.1, M3)
else
some ((-2 : Int32), p1.2)
set_option maxRecDepth 20000 in
def f8_later_79 : Nat → Int32 → zM → Option (Int32 × zM)
  | 0, _, _ => none
  | n + 1, v2, M => if (M.1 3 0) ≤ v2 then
(f7_threads 3 M).bind fun x1 =>
some (x1, M)
else
(f7_cellsOf 3 (0 : Int32) v2 M).bind fun x1 =>
(f3_add (Int32.toInt64 x1) M).bind fun M2 =>
f8_later_79 n (v2 + (1 : Int32)) M2
set_option maxRecDepth 20000 in
def f8_later_25 : Nat → Int32 → Int32 → zM → Option (Int32 × zM)
  | 0, _, _, _ => none
  | n + 1, v1, v2, M => if v1 ≤ v2 then
(f3_tell_ (Int32.toInt64 (M.1 3 0)) (Int32.toInt64 (M.1 3 1)) M).bind fun M1 =>
f8_later_79 zfuel (0 : Int32) M1
else
(f4_goesOf 11 3 M).bind fun p1 =>
(f7_passNight 3 p1.1 p1.2).bind fun M2 =>
f8_later_25 n v1 (v2 + (1 : Int32)) M2
set_option maxRecDepth 20000 in
def f8_later (v1 : Int32) (M : zM) : Option (Int32 × zM) :=
if v1 < 0 then
some ((-1 : Int32), M)
else
if v1 ≤ (60 : Int32) then
(f7_become 3 1 M).bind fun M1 =>
f8_later_25 zfuel v1 (0 : Int32) M1
else
some ((-1 : Int32), M)
set_option maxRecDepth 20000 in
def f8_falls_13 : Nat → Int32 → zM → Option (Int32 × zM)
  | 0, _, _ => none
  | n + 1, v1, M => if (60 : Int32) < v1 then
some ((-2 : Int32), M)
else
(f0_isTogether 3 M).bind fun p1 =>
if p1.1 = 0 then
(f7_threads 3 p1.2).bind fun x2 =>
(f3_tell (Int32.toInt64 x2) p1.2).bind fun M3 =>
some (v1, M3)
else
(f4_goesOf 11 3 p1.2).bind fun p2 =>
(f7_passNight 3 p2.1 p2.2).bind fun M3 =>
f8_falls_13 n (v1 + (1 : Int32)) M3
set_option maxRecDepth 20000 in
def f8_falls (M : zM) : Option (Int32 × zM) :=
(f7_become 3 1 M).bind fun M1 =>
f8_falls_13 zfuel (0 : Int32) M1
set_option maxRecDepth 20000 in
def f8_rags_92 (k40 : Int32 → Int32 → zM → Option (Int32 × zM)) (v2 : Int32) (v3 : Int32) (M : zM) : Option (Int32 × zM) :=
k40 v2 (v3 + (1 : Int32)) M
set_option maxRecDepth 20000 in
def f8_rags_40 : Nat → Int32 → Int32 → zM → Option (Int32 × zM)
  | 0, _, _, _ => none
  | n + 1, v2, v3, M => if (zshl (1 : Int32) (M.1 1 1)) ≤ v3 then
some (v2, M)
else
(fJ6_bitCount v3).bind fun x1 =>
if ((M.1 1 1) - x1) = (M.1 3 1) then
(f8_ragsWithout v3 (if v2 = 0 then (1 : Int32) else (0 : Int32)) M).bind fun p2 =>
f8_rags_92 (f8_rags_40 n) (v2 + p2.1) v3 p2.2
else
f8_rags_92 (f8_rags_40 n) v2 v3 M
set_option maxRecDepth 20000 in
def f8_rags (M : zM) : Option (Int32 × zM) :=
(f7_readFrom 3 M).bind fun p1 =>
if p1.1 = (-1 : Int32) then
(f3_clear (zsi p1.2 7 1 (0 : Int32))).bind fun M2 =>
f8_rags_40 zfuel (0 : Int32) (0 : Int32) M2
else
some (((-1 : Int32) - p1.1), (zsi p1.2 7 1 (0 : Int32)))
set_option maxRecDepth 20000 in
def f8_fits (M : zM) : Option (Int32 × zM) :=
(f5_fitting 1 M).bind fun x1 =>
(fJ6_bitCount x1).bind fun x2 =>
(f3_tell (Int32.toInt64 x2) M).bind fun M3 =>
some (x1, M3)
set_option maxRecDepth 20000 in
def f8_asks_95 (k36 : Int32 → Int32 → Int32 → Int32 → Int32 → zM → Option (Int32 × zM)) (v1 : Int32) (v2 : Int32) (v3 : Int32) (v4 : Int32) (v5 : Int32) (M : zM) : Option (Int32 × zM) :=
k36 v1 v2 v3 v4 (v5 + (1 : Int32)) M
set_option maxRecDepth 20000 in
def f8_asks_36 (k101 : Int32 → Int32 → Int32 → Int32 → zM → Option (Int32 × zM)) : Nat → Int32 → Int32 → Int32 → Int32 → Int32 → zM → Option (Int32 × zM)
  | 0, _, _, _, _, _, _ => none
  | n + 1, v1, v2, v3, v4, v5, M => (f5_mostOf v4).bind fun x1 =>
if x1 < v5 then
k101 v1 v2 v3 v4 M
else
(f5_those v1 v4 v5 1 M).bind fun x2 =>
(fJ6_bitCount x2).bind fun x3 =>
(fJ6_bitCount v1).bind fun x4 =>
if v2 ≤ (zmax x3 (x4 - x3)) then
f8_asks_95 (f8_asks_36 k101 n) v1 v2 v3 v4 v5 M
else
f8_asks_95 (f8_asks_36 k101 n) v1 (zmax x3 (x4 - x3)) (((10 : Int32) * v4) + v5) v4 v5 M
set_option maxRecDepth 20000 in
def f8_asks_101 (k27 : Int32 → Int32 → Int32 → Int32 → zM → Option (Int32 × zM)) (v1 : Int32) (v2 : Int32) (v3 : Int32) (v4 : Int32) (M : zM) : Option (Int32 × zM) :=
k27 v1 v2 v3 (v4 + (1 : Int32)) M
set_option maxRecDepth 20000 in
def f8_asks_27 : Nat → Int32 → Int32 → Int32 → Int32 → zM → Option (Int32 × zM)
  | 0, _, _, _, _, _ => none
  | n + 1, v1, v2, v3, v4, M => if (5 : Int32) ≤ v4 then
(f3_tell (Int32.toInt64 v2) M).bind fun M1 =>
some (v3, M1)
else
f8_asks_36 (f8_asks_101 (f8_asks_27 n)) zfuel v1 v2 v3 v4 (0 : Int32) M
set_option maxRecDepth 20000 in
def f8_asks (M : zM) : Option (Int32 × zM) :=
(f5_fitting 1 M).bind fun x1 =>
if x1 = 0 then
some ((-2 : Int32), M)
else
f8_asks_27 zfuel x1 (13 : Int32) (0 : Int32) (0 : Int32) M
set_option maxRecDepth 20000 in
def f8_law_57 : Nat → Int32 → Int32 → zM → Option (Int32 × zM)
  | 0, _, _, _ => none
  | n + 1, v2, v3, M => if (10 : Int32) ≤ v3 then
(f7_threads 3 M).bind fun x1 =>
(f7_threads 5 M).bind fun x2 =>
(f3_tell_ (Int32.toInt64 x1) (Int32.toInt64 x2) M).bind fun M3 =>
some (v2, M3)
else
(f4_goesOf 16 3 M).bind fun p1 =>
(f4_goesOf 11 5 p1.2).bind fun p2 =>
(f7_passNight 3 p1.1 p2.2).bind fun M3 =>
(f7_passNight 5 p2.1 M3).bind fun M4 =>
f8_law_57 n (v2 + (if p1.1 = p2.1 then (0 : Int32) else (1 : Int32))) (v3 + (1 : Int32)) M4
set_option maxRecDepth 20000 in
def f8_law (M : zM) : Option (Int32 × zM) :=
(f4_readFrom 16 M).bind fun p1 =>
if p1.1 = (-1 : Int32) then
(f7_become 3 1 (zsi p1.2 7 1 (0 : Int32))).bind fun M2 =>
(f7_become 5 1 M2).bind fun M3 =>
f8_law_57 zfuel (0 : Int32) (0 : Int32) M3
else
some (((-10000 : Int32) - p1.1), (zsi p1.2 7 1 (0 : Int32)))
set_option maxRecDepth 20000 in
def f8_years_121 (k31 : Int32 → Int32 → zM → Option (Int32 × zM)) (v2 : Int32) (v3 : Int32) (M : zM) : Option (Int32 × zM) :=
k31 v2 (v3 + (1 : Int32)) M
set_option maxRecDepth 20000 in
def f8_years_31 : Nat → Int32 → Int32 → zM → Option (Int32 × zM)
  | 0, _, _, _ => none
  | n + 1, v2, v3, M => if v2 ≤ v3 then
(f7_overs 3 M).bind fun x1 =>
(f0_isTogether 3 M).bind fun p2 =>
(f3_tell_ (Int32.toInt64 x1) (if p2.1 = 0 then (0 : Int64) else (1 : Int64)) p2.2).bind fun M3 =>
(f7_threads 3 M3).bind fun x4 =>
some (x4, M3)
else
(f8_drawnBelow (4 : Int32) M).bind fun p1 =>
if (2 : Int32) ≤ p1.1 then
if p1.1 = (2 : Int32) then
(f8_drawnBelow (p1.2.1 3 0) p1.2).bind fun p2 =>
(f8_drawnBelow (p2.2.1 3 1) p2.2).bind fun p3 =>
(f7_turnCell 3 p2.1 p3.1 p3.2).bind fun p4 =>
f8_years_121 (f8_years_31 n) v2 v3 p4.2
else
(f8_weaveDrawn p1.2).bind fun M2 =>
f8_years_121 (f8_years_31 n) v2 v3 M2
else
(f4_goesOf 11 3 p1.2).bind fun p2 =>
(f7_passNight 3 p2.1 p2.2).bind fun M3 =>
f8_years_121 (f8_years_31 n) v2 v3 M3
set_option maxRecDepth 20000 in
def f8_years (v1 : Int32) (v2 : Int32) (M : zM) : Option (Int32 × zM) :=
if v2 < (1 : Int32) then
some ((-1 : Int32), M)
else
if v2 ≤ (60 : Int32) then
(f7_become 3 1 (zsi M 0 12 v1)).bind fun M1 =>
f8_years_31 zfuel v2 (0 : Int32) M1
else
some ((-1 : Int32), M)
set_option maxRecDepth 20000 in
def f8_passNights_19 : Nat → Int32 → Int32 → Int32 → Int32 → zM → Option (Int32 × zM)
  | 0, _, _, _, _, _ => none
  | n + 1, v1, v2, v3, v4, M => if v1 ≤ v4 then
(f3_tell_ (Int32.toInt64 (v2 - (M.1 1 0))) (Int32.toInt64 (v3 - (M.1 1 1))) M).bind fun M1 =>
(f7_threads 1 M1).bind fun x2 =>
some (x2, M1)
else
(f4_goesOf 11 1 M).bind fun p1 =>
(f7_passNight 1 p1.1 p1.2).bind fun M2 =>
f8_passNights_19 n v1 v2 v3 (v4 + (1 : Int32)) M2
set_option maxRecDepth 20000 in
def f8_passNights (v1 : Int32) (M : zM) : Option (Int32 × zM) :=
f8_passNights_19 zfuel v1 (M.1 1 0) (M.1 1 1) (0 : Int32) M
set_option maxRecDepth 20000 in
def f8_actAt (v1 : Int32) (M : zM) : Option (Int32 × zM) :=
(f6_digit (v1 + (1 : Int32)) M).bind fun x1 =>
(f6_digit (v1 + (2 : Int32)) M).bind fun x2 =>
(f6_at v1 M).bind fun x3 =>
if x3 = (100 : Int32) then
(f7_drawOut 1 x1 x2 M).bind fun p4 =>
some (p4.1, p4.2)
else
if x3 = (110 : Int32) then
(f8_passNights x1 M).bind fun p4 =>
some (p4.1, p4.2)
else
if x3 = (116 : Int32) then
(f7_turnCell 1 x1 x2 M).bind fun p4 =>
some (p4.1, p4.2)
else
if x3 = (119 : Int32) then
(f6_digit (v1 + (3 : Int32)) M).bind fun x4 =>
(f6_digit (v1 + (4 : Int32)) M).bind fun x5 =>
(f7_weaveIn 1 x1 x2 (((10 : Int32) * x4) + x5) M).bind fun p6 =>
some (p6.1, p6.2)
else
(f7_turnRound 1 x1 M).bind fun p4 =>
some (p4.1, p4.2)
set_option maxRecDepth 20000 in
def f8_staysApart_51 (k17 : Int32 → Int32 → Int32 → zM → Option Int32) (v1 : Int32) (v2 : Int32) (v3 : Int32) (M : zM) : Option Int32 :=
k17 v1 v2 (v3 + (1 : Int32)) M
set_option maxRecDepth 20000 in
def f8_staysApart_17 (k57 : Int32 → Int32 → zM → Option Int32) : Nat → Int32 → Int32 → Int32 → zM → Option Int32
  | 0, _, _, _, _ => none
  | n + 1, v1, v2, v3, M => if (M.1 1 0) ≤ v3 then
k57 v1 v2 M
else
if (((zushr v1 v2) &&& (zushr v1 v3)) &&& (1 : Int32)) = 0 then
f8_staysApart_51 (f8_staysApart_17 k57 n) v1 v2 v3 M
else
(f8_canBeAlike v2 v3 M).bind fun x1 =>
if x1 = 0 then
f8_staysApart_51 (f8_staysApart_17 k57 n) v1 v2 v3 M
else
some (0 : Int32)
set_option maxRecDepth 20000 in
def f8_staysApart_57 (k2 : Int32 → Int32 → zM → Option Int32) (v1 : Int32) (v2 : Int32) (M : zM) : Option Int32 :=
k2 v1 (v2 + (1 : Int32)) M
set_option maxRecDepth 20000 in
def f8_staysApart_2 : Nat → Int32 → Int32 → zM → Option Int32
  | 0, _, _, _ => none
  | n + 1, v1, v2, M => if (M.1 1 0) ≤ v2 then
some (1 : Int32)
else
f8_staysApart_17 (f8_staysApart_57 (f8_staysApart_2 n)) zfuel v1 v2 (v2 + (1 : Int32)) M
set_option maxRecDepth 20000 in
def f8_staysApart (v1 : Int32) (M : zM) : Option Int32 :=
f8_staysApart_2 zfuel v1 (0 : Int32) M
set_option maxRecDepth 20000 in
def f8_nights (v1 : Int32) (M : zM) : Option (Int32 × zM) :=
if v1 < 0 then
some ((-1 : Int32), M)
else
if v1 ≤ (60 : Int32) then
(f7_shape 1 M).bind fun x1 =>
(f2_push 33 15 x1 (M.1 1 2) M).bind fun M2 =>
(f8_passNights v1 M2).bind fun p3 =>
some (p3.1, p3.2)
else
some ((-1 : Int32), M)
set_option maxRecDepth 20000 in
def f8_work_131 (v5 : Int32) (v6 : Int32) (M : zM) : Option (Int32 × zM) :=
(f7_threads 1 M).bind fun x1 =>
(f3_tell_ (Int32.toInt64 v6) (Int32.toInt64 x1) M).bind fun M2 =>
some (v5, M2)
set_option maxRecDepth 20000 in
def f8_work_108 (v2 : Int64) (v4 : Int32) (v5 : Int32) (v6 : Int32) (M : zM) : Option (Int32 × zM) :=
if v5 ≤ 0 then
f8_work_131 v5 v6 (zsi M 7 1 (0 : Int32))
else
(f2_push 33 15 v2 v4 (zsi M 7 1 (0 : Int32))).bind fun M1 =>
f8_work_131 v5 v6 M1
set_option maxRecDepth 20000 in
def f8_work_83 (k48 : Int64 → Int32 → Int32 → Int32 → Int32 → zM → Option (Int32 × zM)) (v2 : Int64) (v4 : Int32) (v5 : Int32) (v6 : Int32) (v7 : Int32) (M : zM) : Option (Int32 × zM) :=
(f6_at v7 M).bind fun x1 =>
(f8_digitsOf x1).bind fun x2 =>
(zslen x2).bind fun x3 =>
k48 v2 v4 v5 v6 (v7 + ((1 : Int32) + x3)) M
set_option maxRecDepth 20000 in
def f8_work_48 : Nat → Int64 → Int32 → Int32 → Int32 → Int32 → zM → Option (Int32 × zM)
  | 0, _, _, _, _, _, _ => none
  | n + 1, v2, v4, v5, v6, v7, M => if (M.1 7 1) ≤ v7 then
f8_work_108 v2 v4 v5 v6 M
else
if v6 = 0 then
(f8_actAt v7 M).bind fun p1 =>
if 0 ≤ p1.1 then
f8_work_83 (f8_work_48 n) v2 v4 (v5 + (1 : Int32)) v6 v7 p1.2
else
f8_work_83 (f8_work_48 n) v2 v4 v5 (1 : Int32) v7 p1.2
else
f8_work_108 v2 v4 v5 v6 M
set_option maxRecDepth 20000 in
def f8_work (M : zM) : Option (Int32 × zM) :=
(f8_workFault M).bind fun x1 =>
if x1 = (-1 : Int32) then
(f7_shape 1 M).bind fun x2 =>
f8_work_48 zfuel x2 (M.1 1 2) (0 : Int32) (0 : Int32) (0 : Int32) M
else
some (((-1 : Int32) - x1), (zsi M 7 1 (0 : Int32)))
set_option maxRecDepth 20000 in
def f8_outlasts_44 (k6 : Int32 → Int32 → Int32 → zM → Option (Int32 × zM)) (v1 : Int32) (v2 : Int32) (v3 : Int32) (M : zM) : Option (Int32 × zM) :=
k6 v1 v2 (v3 + (1 : Int32)) M
set_option maxRecDepth 20000 in
def f8_outlasts_6 : Nat → Int32 → Int32 → Int32 → zM → Option (Int32 × zM)
  | 0, _, _, _, _ => none
  | n + 1, v1, v2, v3, M => if (zshl (1 : Int32) (M.1 1 0)) ≤ v3 then
(f3_tell (Int32.toInt64 v2) M).bind fun M1 =>
some (v1, M1)
else
(fJ6_bitCount v3).bind fun x1 =>
if x1 ≤ v1 then
f8_outlasts_44 (f8_outlasts_6 n) v1 v2 v3 M
else
(f8_staysApart v3 M).bind fun x2 =>
if x2 = 0 then
f8_outlasts_44 (f8_outlasts_6 n) v1 v2 v3 M
else
f8_outlasts_44 (f8_outlasts_6 n) x1 v3 v3 M
set_option maxRecDepth 20000 in
def f8_outlasts (M : zM) : Option (Int32 × zM) :=
f8_outlasts_6 zfuel (0 : Int32) (0 : Int32) (1 : Int32) M
set_option maxRecDepth 20000 in
def gx8_cell (v1 : Int32) (v2 : Int32) (M : zM) : Option Unit :=
(f7_crosses 1 v1 v2 M).bind fun x1 =>
if x1 = 0 then
some ()
else
none
set_option maxRecDepth 20000 in
def gx8_thread (v1 : Int32) (v2 : Int32) (v3 : Int32) (M : zM) : Option Unit :=
(f7_has 1 v1 v2 M).bind fun x1 =>
if x1 = 0 then
some ()
else
if v3 < 0 then
some ()
else
if v3 ≤ (4 : Int32) then
none
else
some ()
set_option maxRecDepth 20000 in
def gx8_row (v1 : Int32) (M : zM) : Option Unit :=
if v1 < 0 then
some ()
else
if v1 < (M.1 9 1) then
none
else
some ()
