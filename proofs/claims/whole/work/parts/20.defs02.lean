set_option maxRecDepth 20000 in
def f9_looks_50 (k14 : Int32 → Int32 → zM → Option (Int32 × zM)) (v1 : Int32) (v2 : Int32) (s0 : Int32) (M : zM) : Option (Int32 × zM) :=
(f9_enters (Int32.toInt64 s0) M).bind fun M1 =>
k14 (v1 ||| (if s0 = 0 then (zshl (1 : Int32) (v2 - (1 : Int32))) else (0 : Int32))) (v2 + (1 : Int32)) M1
set_option maxRecDepth 20000 in
def f9_looks_41 (k14 : Int32 → Int32 → zM → Option (Int32 × zM)) (v1 : Int32) (v2 : Int32) (M : zM) : Option (Int32 × zM) :=
(f9_turned v2 M).bind fun x1 =>
f9_looks_50 k14 v1 v2 x1 M
set_option maxRecDepth 20000 in
def f9_looks_14 : Nat → Int32 → Int32 → zM → Option (Int32 × zM)
  | 0, _, _, _ => none
  | n + 1, v1, v2, M => if (5 : Int32) ≤ v2 then
some (v1, M)
else
if v2 < (4 : Int32) then
f9_looks_41 (f9_looks_14 n) v1 v2 M
else
if (M.1 41 6) = (M.1 41 7) then
f9_looks_41 (f9_looks_14 n) v1 v2 M
else
f9_looks_50 (f9_looks_14 n) v1 v2 (-1 : Int32) M
set_option maxRecDepth 20000 in
def f9_looks (M : zM) : Option (Int32 × zM) :=
f9_looks_14 zfuel (0 : Int32) (1 : Int32) (zsi (zsi M 39 0 (0 : Int32)) 39 1 (0 : Int32))
set_option maxRecDepth 20000 in
def f9_repeatsOf_51 (a0 : Nat) (k13 : Int32 → Int32 → Int32 → Int32 → zM → Option Int32) (v1 : Int32) (v2 : Int32) (v4 : Int32) (s0 : Int32) (M : zM) : Option Int32 :=
k13 v1 v2 s0 (v4 + (1 : Int32)) M
set_option maxRecDepth 20000 in
def f9_repeatsOf_13 (a0 : Nat) (k58 : Int32 → Int32 → Int32 → zM → Option Int32) : Nat → Int32 → Int32 → Int32 → Int32 → zM → Option Int32
  | 0, _, _, _, _, _ => none
  | n + 1, v1, v2, v3, v4, M => (f9_manyOf a0 v1 M).bind fun x1 =>
if x1 ≤ v4 then
k58 v1 v2 v3 M
else
if v3 = 0 then
f9_repeatsOf_51 a0 (f9_repeatsOf_13 a0 k58 n) v1 v2 v4 (0 : Int32) M
else
(f9_bitsOf a0 v1 v4 M).bind fun x2 =>
(f9_bitsOf a0 v1 (v4 - v2) M).bind fun x3 =>
f9_repeatsOf_51 a0 (f9_repeatsOf_13 a0 k58 n) v1 v2 v4 (if x2 = x3 then (1 : Int32) else (0 : Int32)) M
set_option maxRecDepth 20000 in
def f9_repeatsOf_58 (a0 : Nat) (k4 : Int32 → Int32 → Int32 → zM → Option Int32) (v1 : Int32) (v2 : Int32) (v3 : Int32) (M : zM) : Option Int32 :=
(f9_flag (if v3 = 0 then (1 : Int32) else (0 : Int32))).bind fun x1 =>
k4 v1 (v2 + x1) v3 M
set_option maxRecDepth 20000 in
def f9_repeatsOf_4 (a0 : Nat) : Nat → Int32 → Int32 → Int32 → zM → Option Int32
  | 0, _, _, _, _ => none
  | n + 1, v1, v2, v3, M => if v3 = 0 then
f9_repeatsOf_13 a0 (f9_repeatsOf_58 a0 (f9_repeatsOf_4 a0 n)) zfuel v1 v2 (1 : Int32) v2 M
else
some v2
set_option maxRecDepth 20000 in
def f9_repeatsOf (a0 : Nat) (v1 : Int32) (M : zM) : Option Int32 :=
f9_repeatsOf_4 a0 zfuel v1 (1 : Int32) (0 : Int32) M
set_option maxRecDepth 20000 in
def f9_repeats (M : zM) : Option (Int32 × zM) :=
(f9_repeatsOf 41 (1 : Int32) (zsi (zsi M 39 0 (0 : Int32)) 39 1 (0 : Int32))).bind fun x1 =>
(f9_enters (Int32.toInt64 x1) (zsi (zsi M 39 0 (0 : Int32)) 39 1 (0 : Int32))).bind fun M2 =>
(f9_repeatsOf 41 (0 : Int32) M2).bind fun x3 =>
some (x3, M2)
set_option maxRecDepth 20000 in
def f9_runsOf_80 (k38 : Int32 → Int32 → Int32 → Int32 → Int32 → Int32 → zM → Option (Int32 × zM)) (v1 : Int32) (v2 : Int32) (v3 : Int32) (v4 : Int32) (v5 : Int32) (v6 : Int32) (s0 : Int32) (M : zM) : Option (Int32 × zM) :=
(f9_flag (if s0 = 0 then (1 : Int32) else (0 : Int32))).bind fun x1 =>
k38 v1 (v2 + x1) v3 v4 (if s0 = 0 then (1 : Int32) else (v5 + (1 : Int32))) (v6 + (1 : Int32)) (zsi M 39 30 (zmax (M.1 39 30) (if s0 = 0 then (1 : Int32) else (v5 + (1 : Int32)))))
set_option maxRecDepth 20000 in
def f9_runsOf_38 (k132 : Int32 → Int32 → Int32 → zM → Option (Int32 × zM)) : Nat → Int32 → Int32 → Int32 → Int32 → Int32 → Int32 → zM → Option (Int32 × zM)
  | 0, _, _, _, _, _, _, _ => none
  | n + 1, v1, v2, v3, v4, v5, v6, M => (f9_cellsOf 41 v1 M).bind fun x1 =>
if x1 ≤ v6 then
k132 v1 v2 v3 M
else
if v6 ≤ 0 then
f9_runsOf_80 (f9_runsOf_38 k132 n) v1 v2 v3 v4 v5 v6 (0 : Int32) M
else
(f9_has v4 v6).bind fun x2 =>
(f9_has v4 (v6 - (1 : Int32))).bind fun x3 =>
f9_runsOf_80 (f9_runsOf_38 k132 n) v1 v2 v3 v4 v5 v6 (if x2 = x3 then (1 : Int32) else (0 : Int32)) M
set_option maxRecDepth 20000 in
def f9_runsOf_132 (k9 : Int32 → Int32 → Int32 → zM → Option (Int32 × zM)) (v1 : Int32) (v2 : Int32) (v3 : Int32) (M : zM) : Option (Int32 × zM) :=
k9 v1 v2 (v3 + (1 : Int32)) M
set_option maxRecDepth 20000 in
def f9_runsOf_9 : Nat → Int32 → Int32 → Int32 → zM → Option (Int32 × zM)
  | 0, _, _, _, _ => none
  | n + 1, v1, v2, v3, M => (f9_manyOf 41 v1 M).bind fun x1 =>
if x1 ≤ v3 then
some (v2, M)
else
(f9_bitsOf 41 v1 v3 M).bind fun x2 =>
f9_runsOf_38 (f9_runsOf_132 (f9_runsOf_9 n)) zfuel v1 v2 v3 x2 (0 : Int32) (0 : Int32) M
set_option maxRecDepth 20000 in
def f9_runsOf (v1 : Int32) (M : zM) : Option (Int32 × zM) :=
f9_runsOf_9 zfuel v1 (0 : Int32) (0 : Int32) (zsi M 39 30 (0 : Int32))
set_option maxRecDepth 20000 in
def f9_runs (M : zM) : Option (Int32 × zM) :=
(f9_runsOf (0 : Int32) (zsi M 39 0 (0 : Int32))).bind fun p1 =>
(f9_enters (Int32.toInt64 ((zsi p1.2 39 1 (0 : Int32)).1 39 30)) (zsi p1.2 39 1 (0 : Int32))).bind fun M2 =>
(f9_runsOf (1 : Int32) M2).bind fun p3 =>
(f9_enters (Int32.toInt64 p3.1) p3.2).bind fun M4 =>
(f9_enters (Int32.toInt64 (M4.1 39 30)) M4).bind fun M5 =>
some (p1.1, M5)
set_option maxRecDepth 20000 in
def f9_twins_120 (k24 : Int32 → Int32 → Int32 → zM → Option (Int32 × zM)) (v1 : Int32) (v2 : Int32) (v3 : Int32) (v4 : Int32) (M : zM) : Option (Int32 × zM) :=
(f9_flag v4).bind fun x1 =>
k24 (v1 + x1) v2 (v3 + (1 : Int32)) M
set_option maxRecDepth 20000 in
def f9_twins_97 (k24 : Int32 → Int32 → Int32 → zM → Option (Int32 × zM)) (v1 : Int32) (v2 : Int32) (v3 : Int32) (s0 : Int32) (M : zM) : Option (Int32 × zM) :=
if s0 = 0 then
f9_twins_120 k24 v1 v2 v3 s0 M
else
if v1 = 0 then
(f9_enters (Int32.toInt64 v2) M).bind fun M1 =>
(f9_enters (Int32.toInt64 v3) M1).bind fun M2 =>
f9_twins_120 k24 v1 v2 v3 s0 M2
else
f9_twins_120 k24 v1 v2 v3 s0 M
set_option maxRecDepth 20000 in
def f9_twins_24 (k134 : Int32 → Int32 → zM → Option (Int32 × zM)) : Nat → Int32 → Int32 → Int32 → zM → Option (Int32 × zM)
  | 0, _, _, _, _ => none
  | n + 1, v1, v2, v3, M => if (12 : Int32) ≤ v3 then
k134 v1 v2 M
else
if (v2 / (6 : Int32)) = (v3 / (6 : Int32)) then
(f9_isThread 41 (v3 / (6 : Int32)) (zrem v3 (6 : Int32)) M).bind fun x1 =>
if x1 = 0 then
f9_twins_97 (f9_twins_24 k134 n) v1 v2 v3 (0 : Int32) M
else
(f9_bitsOf 41 (v2 / (6 : Int32)) (zrem v2 (6 : Int32)) M).bind fun x2 =>
(f9_bitsOf 41 (v3 / (6 : Int32)) (zrem v3 (6 : Int32)) M).bind fun x3 =>
f9_twins_97 (f9_twins_24 k134 n) v1 v2 v3 (if x2 = x3 then (1 : Int32) else (0 : Int32)) M
else
f9_twins_97 (f9_twins_24 k134 n) v1 v2 v3 (0 : Int32) M
set_option maxRecDepth 20000 in
def f9_twins_134 (k14 : Int32 → Int32 → zM → Option (Int32 × zM)) (v1 : Int32) (v2 : Int32) (M : zM) : Option (Int32 × zM) :=
k14 v1 (v2 + (1 : Int32)) M
set_option maxRecDepth 20000 in
def f9_twins_14 : Nat → Int32 → Int32 → zM → Option (Int32 × zM)
  | 0, _, _, _ => none
  | n + 1, v1, v2, M => if (12 : Int32) ≤ v2 then
some (v1, M)
else
f9_twins_24 (f9_twins_134 (f9_twins_14 n)) zfuel v1 v2 (v2 + (1 : Int32)) M
set_option maxRecDepth 20000 in
def f9_twins (M : zM) : Option (Int32 × zM) :=
f9_twins_14 zfuel (0 : Int32) (0 : Int32) (zsi (zsi M 39 0 (0 : Int32)) 39 1 (0 : Int32))
set_option maxRecDepth 20000 in
def f9_game_183 (M : zM) : Option (Int32 × zM) :=
(f9_flag (if (M.1 39 1) ≤ 0 then (0 : Int32) else (1 : Int32))).bind fun x1 =>
some (x1, M)
set_option maxRecDepth 20000 in
def f9_game_177 (k115 : Int32 → Int32 → zM → Option (Int32 × zM)) (v1 : Int32) (v2 : Int32) (M : zM) : Option (Int32 × zM) :=
k115 v1 (v2 + (1 : Int32)) M
set_option maxRecDepth 20000 in
def f9_game_115 : Nat → Int32 → Int32 → zM → Option (Int32 × zM)
  | 0, _, _, _ => none
  | n + 1, v1, v2, M => if (12 : Int32) ≤ v2 then
f9_game_183 M
else
(zaI M 4096 56 v1).bind fun x1 =>
if x1 = 0 then
f9_game_183 M
else
if (M.1 39 1) = 0 then
(f9_has v1 v2).bind fun x2 =>
if x2 = 0 then
f9_game_177 (f9_game_115 n) v1 v2 M
else
(zaI M 4096 56 (v1 &&& ((zshl (1 : Int32) v2) ^^^ (-1 : Int32)))).bind fun x3 =>
if x3 = 0 then
f9_game_177 (f9_game_115 n) v1 v2 M
else
(zaI M 4096 59 (v1 &&& ((zshl (1 : Int32) v2) ^^^ (-1 : Int32)))).bind fun x4 =>
if x4 = 0 then
(f9_enters (Int32.toInt64 v2) M).bind fun M5 =>
f9_game_177 (f9_game_115 n) v1 v2 M5
else
f9_game_177 (f9_game_115 n) v1 v2 M
else
f9_game_183 M
set_option maxRecDepth 20000 in
def f9_game_95 (k33 : Int32 → Int32 → Int32 → zM → Option (Int32 × zM)) (v1 : Int32) (v2 : Int32) (v3 : Int32) (s1 : Int32) (s2 : Int32) (M : zM) : Option (Int32 × zM) :=
(zpZ M 4096 59 s1 s2).bind fun M1 =>
k33 v1 v2 (v3 + (1 : Int32)) M1
set_option maxRecDepth 20000 in
def f9_game_33 (k102 : Int32 → Int32 → zM → Option (Int32 × zM)) : Nat → Int32 → Int32 → Int32 → zM → Option (Int32 × zM)
  | 0, _, _, _, _ => none
  | n + 1, v1, v2, v3, M => if (12 : Int32) ≤ v3 then
k102 v1 v2 M
else
(zaI M 4096 59 v2).bind fun x1 =>
if x1 = 0 then
(f9_has v2 v3).bind fun x2 =>
if x2 = 0 then
f9_game_95 (f9_game_33 k102 n) v1 v2 v3 v2 (0 : Int32) M
else
(zaI M 4096 56 (v2 &&& ((zshl (1 : Int32) v3) ^^^ (-1 : Int32)))).bind fun x3 =>
if x3 = 0 then
f9_game_95 (f9_game_33 k102 n) v1 v2 v3 v2 (0 : Int32) M
else
(zaI M 4096 59 (v2 &&& ((zshl (1 : Int32) v3) ^^^ (-1 : Int32)))).bind fun x4 =>
f9_game_95 (f9_game_33 k102 n) v1 v2 v3 v2 (if x4 = 0 then (1 : Int32) else (0 : Int32)) M
else
f9_game_95 (f9_game_33 k102 n) v1 v2 v3 v2 (1 : Int32) M
set_option maxRecDepth 20000 in
def f9_game_102 (k19 : Int32 → Int32 → zM → Option (Int32 × zM)) (v1 : Int32) (v2 : Int32) (M : zM) : Option (Int32 × zM) :=
k19 v1 (v2 + (1 : Int32)) M
set_option maxRecDepth 20000 in
def f9_game_19 : Nat → Int32 → Int32 → zM → Option (Int32 × zM)
  | 0, _, _, _ => none
  | n + 1, v1, v2, M => if v1 < v2 then
f9_game_115 zfuel v1 (0 : Int32) (zsi M 39 1 (0 : Int32))
else
(zpZ M 4096 59 v2 (0 : Int32)).bind fun M1 =>
f9_game_33 (f9_game_102 (f9_game_19 n)) zfuel v1 v2 (0 : Int32) M1
set_option maxRecDepth 20000 in
def f9_game (M : zM) : Option (Int32 × zM) :=
(f9_laysHangs (zsi M 39 0 (0 : Int32))).bind fun M1 =>
(f9_allOf 41 M1).bind fun x2 =>
f9_game_19 zfuel x2 (0 : Int32) M1
set_option maxRecDepth 20000 in
def f9_highest (v0 : Int32) : Option Int32 :=
some (if v0 = 0 then (1 : Int32) else (if v0 = (3 : Int32) then (1 : Int32) else (if v0 = (1 : Int32) then (6 : Int32) else (5 : Int32))))
set_option maxRecDepth 20000 in
def f9_told (v1 : Int32) (v2 : Int32) (M : zM) : Option (Int32 × zM) :=
(f9_in (Int32.toInt64 v1) (0 : Int64) (4 : Int64)).bind fun x1 =>
if x1 = 0 then
some ((-1 : Int32), (zsi M 39 0 (0 : Int32)))
else
(f9_highest v1).bind fun x2 =>
(f9_in (Int32.toInt64 v2) (0 : Int64) (Int32.toInt64 x2)).bind fun x3 =>
if x3 = 0 then
some ((-1 : Int32), (zsi M 39 0 (0 : Int32)))
else
if ((zsi M 39 0 (0 : Int32)).1 39 32) = (12 : Int32) then
some ((-1 : Int32), (zsi M 39 0 (0 : Int32)))
else
(zpI (zsi M 39 0 (0 : Int32)) 12 60 ((zsi M 39 0 (0 : Int32)).1 39 32) v1).bind fun M4 =>
(zpI M4 12 61 (M4.1 39 32) v2).bind fun M5 =>
some (((zsi M5 39 32 ((M5.1 39 32) + (1 : Int32))).1 39 32), (zsi M5 39 32 ((M5.1 39 32) + (1 : Int32))))
set_option maxRecDepth 20000 in
def f9_forget (M : zM) : Option (Int32 × zM) :=
some (((zsi M 39 0 (0 : Int32)).1 39 32), (zsi (zsi M 39 0 (0 : Int32)) 39 32 (0 : Int32)))
set_option maxRecDepth 20000 in
def f9_isSo (v1 : Int32) (v2 : Int32) (v3 : Int32) (M : zM) : Option Int32 :=
(f9_bitsOf 41 (v1 / (6 : Int32)) (zrem v1 (6 : Int32)) M).bind fun x1 =>
if v2 = (0 : Int32) then
some (if (v1 / (6 : Int32)) = v3 then (1 : Int32) else (0 : Int32))
else
if v2 = (1 : Int32) then
(fJ6_bitCount x1).bind fun x2 =>
some (if x2 < v3 then (0 : Int32) else (1 : Int32))
else
if v2 = (2 : Int32) then
(f9_cellsOf 41 (v1 / (6 : Int32)) M).bind fun x2 =>
(f9_changesOf x1 x2).bind fun x3 =>
some (if x3 < v3 then (0 : Int32) else (1 : Int32))
else
if v2 = (3 : Int32) then
(f9_isLoose 41 (v1 / (6 : Int32)) (zrem v1 (6 : Int32)) M).bind fun x2 =>
(f9_flag x2).bind fun x3 =>
some (if x3 = v3 then (1 : Int32) else (0 : Int32))
else
some (if v3 < (zrem v1 (6 : Int32)) then (0 : Int32) else (1 : Int32))
set_option maxRecDepth 20000 in
def f9_fitting_18 (k72 : Int32 → Int32 → zM → Option Int32) : Nat → Int32 → Int32 → Int32 → zM → Option Int32
  | 0, _, _, _, _ => none
  | n + 1, v1, v2, v3, M => if (M.1 39 32) ≤ v3 then
k72 v1 v2 M
else
(f9_has v1 v2).bind fun x1 =>
if x1 = 0 then
k72 v1 v2 M
else
(zaI M 12 60 v3).bind fun x2 =>
(zaI M 12 61 v3).bind fun x3 =>
(f9_isSo v2 x2 x3 M).bind fun x4 =>
f9_fitting_18 k72 n (v1 &&& (if x4 = 0 then ((zshl (1 : Int32) v2) ^^^ (-1 : Int32)) else (-1 : Int32))) v2 (v3 + (1 : Int32)) M
set_option maxRecDepth 20000 in
def f9_fitting_72 (k10 : Int32 → Int32 → zM → Option Int32) (v1 : Int32) (v2 : Int32) (M : zM) : Option Int32 :=
k10 v1 (v2 + (1 : Int32)) M
set_option maxRecDepth 20000 in
def f9_fitting_10 : Nat → Int32 → Int32 → zM → Option Int32
  | 0, _, _, _ => none
  | n + 1, v1, v2, M => if (12 : Int32) ≤ v2 then
some v1
else
f9_fitting_18 (f9_fitting_72 (f9_fitting_10 n)) zfuel v1 v2 (0 : Int32) M
set_option maxRecDepth 20000 in
def f9_fitting (M : zM) : Option Int32 :=
(f9_allOf 41 M).bind fun x1 =>
f9_fitting_10 zfuel x1 (0 : Int32) M
set_option maxRecDepth 20000 in
def f9_fits (M : zM) : Option (Int32 × zM) :=
(f9_fitting (zsi M 39 0 (0 : Int32))).bind fun x1 =>
(fJ6_bitCount x1).bind fun x2 =>
(f9_enters (Int32.toInt64 x2) (zsi (zsi M 39 0 (0 : Int32)) 39 1 (0 : Int32))).bind fun M3 =>
some (x1, M3)
set_option maxRecDepth 20000 in
def f9_asks_87 (k51 : Int32 → Int32 → Int32 → Int32 → Int32 → Int32 → Int32 → zM → Option (Int32 × zM)) (v1 : Int32) (v2 : Int32) (v3 : Int32) (v4 : Int32) (v5 : Int32) (v7 : Int32) (s0 : Int32) (s1 : Int32) (M : zM) : Option (Int32 × zM) :=
(f9_flag s1).bind fun x1 =>
k51 v1 v2 v3 v4 v5 (s0 + x1) (v7 + (1 : Int32)) M
set_option maxRecDepth 20000 in
def f9_asks_51 (k99 : Int32 → Int32 → Int32 → Int32 → Int32 → Int32 → zM → Option (Int32 × zM)) : Nat → Int32 → Int32 → Int32 → Int32 → Int32 → Int32 → Int32 → zM → Option (Int32 × zM)
  | 0, _, _, _, _, _, _, _, _ => none
  | n + 1, v1, v2, v3, v4, v5, v6, v7, M => if (12 : Int32) ≤ v7 then
k99 v1 v2 v3 v4 v5 v6 M
else
(f9_has v1 v7).bind fun x1 =>
if x1 = 0 then
f9_asks_87 (f9_asks_51 k99 n) v1 v2 v3 v4 v5 v7 v6 (0 : Int32) M
else
(f9_isSo v7 v4 v5 M).bind fun x2 =>
f9_asks_87 (f9_asks_51 k99 n) v1 v2 v3 v4 v5 v7 v6 (if x2 = 0 then (0 : Int32) else (1 : Int32)) M
set_option maxRecDepth 20000 in
def f9_asks_99 (k35 : Int32 → Int32 → Int32 → Int32 → Int32 → zM → Option (Int32 × zM)) (v1 : Int32) (v2 : Int32) (v3 : Int32) (v4 : Int32) (v5 : Int32) (v6 : Int32) (M : zM) : Option (Int32 × zM) :=
(fJ6_bitCount v1).bind fun x1 =>
k35 v1 (if v3 ≤ (zmax v6 (x1 - v6)) then v2 else (((10 : Int32) * v4) + v5)) (zmin v3 (zmax v6 (x1 - v6))) v4 (v5 + (1 : Int32)) M
set_option maxRecDepth 20000 in
def f9_asks_35 (k145 : Int32 → Int32 → Int32 → Int32 → zM → Option (Int32 × zM)) : Nat → Int32 → Int32 → Int32 → Int32 → Int32 → zM → Option (Int32 × zM)
  | 0, _, _, _, _, _, _ => none
  | n + 1, v1, v2, v3, v4, v5, M => (f9_highest v4).bind fun x1 =>
if x1 < v5 then
k145 v1 v2 v3 v4 M
else
f9_asks_51 (f9_asks_99 (f9_asks_35 k145 n)) zfuel v1 v2 v3 v4 v5 (0 : Int32) (0 : Int32) M
set_option maxRecDepth 20000 in
def f9_asks_145 (k26 : Int32 → Int32 → Int32 → Int32 → zM → Option (Int32 × zM)) (v1 : Int32) (v2 : Int32) (v3 : Int32) (v4 : Int32) (M : zM) : Option (Int32 × zM) :=
k26 v1 v2 v3 (v4 + (1 : Int32)) M
set_option maxRecDepth 20000 in
def f9_asks_26 : Nat → Int32 → Int32 → Int32 → Int32 → zM → Option (Int32 × zM)
  | 0, _, _, _, _, _ => none
  | n + 1, v1, v2, v3, v4, M => if (5 : Int32) ≤ v4 then
(f9_enters (Int32.toInt64 v3) (zsi M 39 1 (0 : Int32))).bind fun M1 =>
some (v2, M1)
else
f9_asks_35 (f9_asks_145 (f9_asks_26 n)) zfuel v1 v2 v3 v4 (0 : Int32) M
set_option maxRecDepth 20000 in
def f9_asks (M : zM) : Option (Int32 × zM) :=
(f9_fitting (zsi M 39 0 (0 : Int32))).bind fun x1 =>
if x1 = 0 then
some ((-2 : Int32), (zsi M 39 0 (0 : Int32)))
else
f9_asks_26 zfuel x1 (-1 : Int32) (1000000 : Int32) (0 : Int32) (zsi M 39 0 (0 : Int32))
set_option maxRecDepth 20000 in
def f9_odds_139 (k90 : Int32 → Int32 → Int64 → Int64 → Int32 → Int64 → Int32 → zM → Option (Int32 × zM)) (v1 : Int32) (v2 : Int32) (v3 : Int64) (v5 : Int64) (v7 : Int32) (v10 : Int32) (s0 : Int64) (s1 : Int64) (M : zM) : Option (Int32 × zM) :=
k90 v1 v2 v3 v5 v7 (s0 * s1) (v10 + (1 : Int32)) M
set_option maxRecDepth 20000 in
def f9_odds_90 (k148 : Int32 → Int32 → Int64 → Int64 → Int32 → Int64 → zM → Option (Int32 × zM)) : Nat → Int32 → Int32 → Int64 → Int64 → Int32 → Int64 → Int32 → zM → Option (Int32 × zM)
  | 0, _, _, _, _, _, _, _, _ => none
  | n + 1, v1, v2, v3, v5, v7, v8, v10, M => if (12 : Int32) ≤ v10 then
k148 v1 v2 v3 v5 v7 v8 M
else
if (lg_cmp v8 (0 : Int64)) ≤ 0 then
k148 v1 v2 v3 v5 v7 v8 M
else
(f9_has v2 v10).bind fun x1 =>
if x1 = 0 then
f9_odds_139 (f9_odds_90 k148 n) v1 v2 v3 v5 v7 v10 v8 (1 : Int64) M
else
(f9_has v7 v10).bind fun x2 =>
f9_odds_139 (f9_odds_90 k148 n) v1 v2 v3 v5 v7 v10 v8 (if x2 = 0 then (Int32.toInt64 v1) else (Int32.toInt64 ((10 : Int32) - v1))) M
set_option maxRecDepth 20000 in
def f9_odds_148 (k68 : Int32 → Int32 → Int64 → Int64 → Int32 → zM → Option (Int32 × zM)) (v1 : Int32) (v2 : Int32) (v3 : Int64) (v5 : Int64) (v7 : Int32) (v8 : Int64) (M : zM) : Option (Int32 × zM) :=
k68 v1 v2 (v3 + v8) v5 (v7 + (1 : Int32)) M
set_option maxRecDepth 20000 in
def f9_odds_68 : Nat → Int32 → Int32 → Int64 → Int64 → Int32 → zM → Option (Int32 × zM)
  | 0, _, _, _, _, _, _ => none
  | n + 1, v1, v2, v3, v5, v7, M => if v2 < v7 then
(f9_common 200 v3 v5).bind fun x1 =>
(zldiv v3 x1).bind fun x2 =>
(f9_enters x2 (zsi M 39 1 (0 : Int32))).bind fun M3 =>
(zldiv v5 x1).bind fun x4 =>
(f9_enters x4 M3).bind fun M5 =>
some ((0 : Int32), M5)
else
(zaI M 4096 56 v7).bind fun x1 =>
(f9_flag x1).bind fun x2 =>
f9_odds_90 (f9_odds_148 (f9_odds_68 n)) zfuel v1 v2 v3 v5 v7 (Int32.toInt64 x2) (0 : Int32) M
set_option maxRecDepth 20000 in
def f9_odds_39 : Nat → Int32 → Int32 → Int64 → Int64 → Int32 → zM → Option (Int32 × zM)
  | 0, _, _, _, _, _, _ => none
  | n + 1, v1, v2, v3, v5, v7, M => (f9_threadsOf 41 M).bind fun x1 =>
if x1 ≤ v7 then
f9_odds_68 zfuel v1 v2 v3 v5 (1 : Int32) M
else
f9_odds_39 n v1 v2 v3 (v5 * (10 : Int64)) (v7 + (1 : Int32)) M
set_option maxRecDepth 20000 in
def f9_odds (v1 : Int32) (M : zM) : Option (Int32 × zM) :=
(f9_in (Int32.toInt64 v1) (0 : Int64) (10 : Int64)).bind fun x1 =>
if x1 = 0 then
some ((-1 : Int32), (zsi M 39 0 (0 : Int32)))
else
(f9_laysHangs (zsi M 39 0 (0 : Int32))).bind fun M2 =>
(f9_allOf 41 M2).bind fun x3 =>
f9_odds_39 zfuel v1 x3 (0 : Int64) (1 : Int64) (0 : Int32) M2
set_option maxRecDepth 20000 in
def f9_law_135 : Nat → Int32 → Int32 → Int32 → Int32 → zM → Option (Int32 × zM)
  | 0, _, _, _, _, _ => none
  | n + 1, v2, v3, v4, v5, M => if (10 : Int32) ≤ v5 then
(f9_laysCode 62 v3 M).bind fun M1 =>
(f9_threadsOf 42 (zsi M1 39 1 (0 : Int32))).bind fun x2 =>
(f9_enters (Int32.toInt64 x2) (zsi M1 39 1 (0 : Int32))).bind fun M3 =>
(f9_enters (Int32.toInt64 v2) M3).bind fun M4 =>
some (v4, M4)
else
(f9_nightGoes 42 M).bind fun p1 =>
(zaI p1.2 10 63 v5).bind fun x2 =>
(f9_flag (if p1.1 = x2 then (0 : Int32) else (1 : Int32))).bind fun x3 =>
f9_law_135 n v2 v3 (v4 + x3) (v5 + (1 : Int32)) p1.2
set_option maxRecDepth 20000 in
def f9_law_77 : Nat → Int32 → Int32 → Int32 → zM → Option (Int32 × zM)
  | 0, _, _, _, _ => none
  | n + 1, v2, v3, v4, M => if (M.1 39 14) ≤ v4 then
(f9_laysCode 46 (M.1 39 15) M).bind fun M1 =>
(f9_copies 42 41 M1).bind fun M2 =>
f9_law_135 zfuel v2 v3 (0 : Int32) (0 : Int32) M2
else
(zaI M 80 45 v4).bind fun x1 =>
(zpI M 80 62 v4 x1).bind fun M2 =>
f9_law_77 n v2 v3 (v4 + (1 : Int32)) M2
set_option maxRecDepth 20000 in
def f9_law_35 : Nat → Int32 → zM → Option (Int32 × zM)
  | 0, _, _ => none
  | n + 1, v2, M => if (10 : Int32) ≤ v2 then
(f9_threadsOf 42 M).bind fun x1 =>
f9_law_77 zfuel x1 (M.1 39 14) (0 : Int32) M
else
(f9_nightGoes 42 M).bind fun p1 =>
(zpI p1.2 10 63 v2 p1.1).bind fun M2 =>
f9_law_35 n (v2 + (1 : Int32)) M2
set_option maxRecDepth 20000 in
def f9_law (M : zM) : Option (Int32 × zM) :=
(f9_readsRule (zsi M 39 0 (0 : Int32))).bind fun p1 =>
if 0 ≤ p1.1 then
(f9_copies 42 41 p1.2).bind fun M2 =>
f9_law_35 zfuel (0 : Int32) M2
else
some (((p1.1 + (1 : Int32)) - (10000 : Int32)), p1.2)
set_option maxRecDepth 20000 in
def f9_gets (v0 : Int32) (v1 : Int32) (v2 : Int32) : Option Int32 :=
if v2 < (v0 + v1) then
some ((if v1 ≤ v0 then (if v0 ≤ v1 then (v2 / (2 : Int32)) else (v2 - (zmin v1 v2))) else (zmin v0 v2)) - (1 : Int32))
else
some v0
set_option maxRecDepth 20000 in
def f9_isRest_37 (k5 : Int32 → Int32 → Int32 → Int32 → Int32 → Option Int32) (v0 : Int32) (v1 : Int32) (v2 : Int32) (v4 : Int32) (s0 : Int32) : Option Int32 :=
k5 v0 v1 v2 s0 (v4 + (1 : Int32))
set_option maxRecDepth 20000 in
def f9_isRest_5 : Nat → Int32 → Int32 → Int32 → Int32 → Int32 → Option Int32
  | 0, _, _, _, _, _ => none
  | n + 1, v0, v1, v2, v3, v4 => if (9 : Int32) < v4 then
(zbl v3).bind fun x1 =>
some v3
else
if v3 = 0 then
f9_isRest_37 (f9_isRest_5 n) v0 v1 v2 v4 (0 : Int32)
else
(f9_gets v4 v1 v2).bind fun x1 =>
(f9_gets v0 v1 v2).bind fun x2 =>
f9_isRest_37 (f9_isRest_5 n) v0 v1 v2 v4 (if x2 < x1 then (0 : Int32) else (1 : Int32))
set_option maxRecDepth 20000 in
def f9_isRest (v0 : Int32) (v1 : Int32) (v2 : Int32) : Option Int32 :=
f9_isRest_5 zfuel v0 v1 v2 (1 : Int32) (0 : Int32)
set_option maxRecDepth 20000 in
def f9_rests_84 (k37 : Int32 → Int32 → Int32 → Int32 → zM → Option (Int32 × zM)) (v1 : Int32) (v2 : Int32) (v3 : Int32) (v4 : Int32) (M : zM) : Option (Int32 × zM) :=
k37 v1 v2 v3 (v4 + (1 : Int32)) M
set_option maxRecDepth 20000 in
def f9_rests_81 (k37 : Int32 → Int32 → Int32 → Int32 → zM → Option (Int32 × zM)) (v1 : Int32) (v2 : Int32) (v3 : Int32) (v4 : Int32) (M : zM) : Option (Int32 × zM) :=
f9_rests_84 k37 v1 (v2 + (1 : Int32)) v3 v4 M
set_option maxRecDepth 20000 in
def f9_rests_37 (k90 : Int32 → Int32 → Int32 → zM → Option (Int32 × zM)) : Nat → Int32 → Int32 → Int32 → Int32 → zM → Option (Int32 × zM)
  | 0, _, _, _, _, _ => none
  | n + 1, v1, v2, v3, v4, M => if (9 : Int32) < v4 then
k90 v1 v2 v3 M
else
(f9_isRest v3 v4 v1).bind fun x1 =>
if x1 = 0 then
f9_rests_84 (f9_rests_37 k90 n) v1 v2 v3 v4 M
else
(f9_isRest v4 v3 v1).bind fun x2 =>
if x2 = 0 then
f9_rests_84 (f9_rests_37 k90 n) v1 v2 v3 v4 M
else
if v2 = 0 then
(f9_enters (Int32.toInt64 v3) M).bind fun M3 =>
(f9_enters (Int32.toInt64 v4) M3).bind fun M4 =>
f9_rests_81 (f9_rests_37 k90 n) v1 v2 v3 v4 M4
else
f9_rests_81 (f9_rests_37 k90 n) v1 v2 v3 v4 M
set_option maxRecDepth 20000 in
def f9_rests_90 (k28 : Int32 → Int32 → Int32 → zM → Option (Int32 × zM)) (v1 : Int32) (v2 : Int32) (v3 : Int32) (M : zM) : Option (Int32 × zM) :=
k28 v1 v2 (v3 + (1 : Int32)) M
set_option maxRecDepth 20000 in
def f9_rests_28 : Nat → Int32 → Int32 → Int32 → zM → Option (Int32 × zM)
  | 0, _, _, _, _ => none
  | n + 1, v1, v2, v3, M => if (9 : Int32) < v3 then
some (v2, M)
else
f9_rests_37 (f9_rests_90 (f9_rests_28 n)) zfuel v1 v2 v3 (0 : Int32) M
set_option maxRecDepth 20000 in
def f9_rests (v1 : Int32) (M : zM) : Option (Int32 × zM) :=
(f9_in (Int32.toInt64 v1) (0 : Int64) (20 : Int64)).bind fun x1 =>
if x1 = 0 then
some ((-1 : Int32), (zsi M 39 0 (0 : Int32)))
else
f9_rests_28 zfuel v1 (0 : Int32) (0 : Int32) (zsi (zsi M 39 0 (0 : Int32)) 39 1 (0 : Int32))
set_option maxRecDepth 20000 in
def f9_drawn (v1 : Int32) (M : zM) : Option (Int32 × zM) :=
(zmod (zushr ((zsi M 39 37 (((M.1 39 37) * (1103515245 : Int32)) + (12345 : Int32))).1 39 37) (16 : Int32)) v1).bind fun x1 =>
some (x1, (zsi M 39 37 (((M.1 39 37) * (1103515245 : Int32)) + (12345 : Int32))))
set_option maxRecDepth 20000 in
def f9_years_165 (k37 : Int32 → Int32 → zM → Option (Int32 × zM)) (v2 : Int32) (v3 : Int32) (M : zM) : Option (Int32 × zM) :=
k37 v2 (v3 + (1 : Int32)) M
set_option maxRecDepth 20000 in
def f9_years_37 : Nat → Int32 → Int32 → zM → Option (Int32 × zM)
  | 0, _, _, _ => none
  | n + 1, v2, v3, M => if v2 ≤ v3 then
(f9_overs 42 (zsi M 39 1 (0 : Int32))).bind fun x1 =>
(f9_enters (Int32.toInt64 x1) (zsi M 39 1 (0 : Int32))).bind fun M2 =>
(f9_doesHang 42 M2).bind fun p3 =>
(f9_flag p3.1).bind fun x4 =>
(f9_enters (Int32.toInt64 x4) p3.2).bind fun M5 =>
(f9_threadsOf 42 M5).bind fun x6 =>
some (x6, M5)
else
(f9_drawn (4 : Int32) M).bind fun p1 =>
if (2 : Int32) ≤ p1.1 then
if p1.1 = (2 : Int32) then
(f9_drawn (p1.2.1 42 6) p1.2).bind fun p2 =>
(f9_drawn (p2.2.1 42 7) p2.2).bind fun p3 =>
(f9_flipsOne 42 p2.1 p3.1 p3.2).bind fun p4 =>
f9_years_165 (f9_years_37 n) v2 v3 p4.2
else
(f9_drawn (2 : Int32) p1.2).bind fun p2 =>
(f9_manyOf 42 p2.1 p2.2).bind fun x3 =>
(f9_drawn (x3 + (1 : Int32)) p2.2).bind fun p4 =>
(f9_drawn (64 : Int32) p4.2).bind fun p5 =>
(f9_cellsOf 42 p2.1 p5.2).bind fun x6 =>
(f9_full x6).bind fun x7 =>
(f9_weavesIn 42 p2.1 p4.1 (p5.1 &&& x7) p5.2).bind fun p8 =>
f9_years_165 (f9_years_37 n) v2 v3 p8.2
else
(f9_nightGoes 42 p1.2).bind fun p2 =>
f9_years_165 (f9_years_37 n) v2 v3 p2.2
set_option maxRecDepth 20000 in
def f9_years (v1 : Int32) (v2 : Int32) (M : zM) : Option (Int32 × zM) :=
(f9_in (Int32.toInt64 v2) (1 : Int64) (60 : Int64)).bind fun x1 =>
if x1 = 0 then
some ((-1 : Int32), (zsi M 39 0 (0 : Int32)))
else
(f9_copies 42 41 (zsi (zsi M 39 0 (0 : Int32)) 39 37 v1)).bind fun M2 =>
f9_years_37 zfuel v2 (0 : Int32) M2
set_option maxRecDepth 20000 in
def f9_keep_38 : Nat → Int32 → Int32 → zM → Option (Int32 × zM)
  | 0, _, _, _ => none
  | n + 1, v1, v2, M => if (9 : Int32) ≤ v2 then
some ((1 : Int32), M)
else
(zaI M 9 41 v2).bind fun x1 =>
(zpI M 27 66 (((9 : Int32) * v1) + v2) x1).bind fun M2 =>
f9_keep_38 n v1 (v2 + (1 : Int32)) M2
set_option maxRecDepth 20000 in
def f9_keep (v1 : Int32) (M : zM) : Option (Int32 × zM) :=
(f9_in (Int32.toInt64 v1) (0 : Int64) (2 : Int64)).bind fun x1 =>
if x1 = 0 then
some ((0 : Int32), (zsi M 39 0 (0 : Int32)))
else
(zpZ (zsi M 39 0 (0 : Int32)) 3 64 v1 (1 : Int32)).bind fun M2 =>
(zpI M2 3 65 v1 (M2.1 39 5)).bind fun M3 =>
f9_keep_38 zfuel v1 (0 : Int32) M3
set_option maxRecDepth 20000 in
def f9_again_43 : Nat → Int32 → Int32 → zM → Option (Int32 × zM)
  | 0, _, _, _ => none
  | n + 1, v1, v2, M => if (9 : Int32) ≤ v2 then
some ((1 : Int32), (zsi M 39 18 (0 : Int32)))
else
(zaI M 27 66 (((9 : Int32) * v1) + v2)).bind fun x1 =>
(zpI M 9 41 v2 x1).bind fun M2 =>
f9_again_43 n v1 (v2 + (1 : Int32)) M2
set_option maxRecDepth 20000 in
def f9_again (v1 : Int32) (M : zM) : Option (Int32 × zM) :=
(f9_in (Int32.toInt64 v1) (0 : Int64) (2 : Int64)).bind fun x1 =>
if x1 = 0 then
some ((0 : Int32), (zsi M 39 0 (0 : Int32)))
else
(zaI (zsi M 39 0 (0 : Int32)) 3 64 v1).bind fun x2 =>
if x2 = 0 then
some ((0 : Int32), (zsi M 39 0 (0 : Int32)))
else
(zaI (zsi M 39 0 (0 : Int32)) 3 65 v1).bind fun x3 =>
if x3 = ((zsi M 39 0 (0 : Int32)).1 39 5) then
f9_again_43 zfuel v1 (0 : Int32) (zsi M 39 0 (0 : Int32))
else
some ((0 : Int32), (zsi M 39 0 (0 : Int32)))
set_option maxRecDepth 20000 in
def f9_count (v1 : Int32) (M : zM) : Option (Int32 × zM) :=
if v1 = (0 : Int32) then
some (((zsi M 39 0 (0 : Int32)).1 41 6), (zsi M 39 0 (0 : Int32)))
else
if v1 = (1 : Int32) then
some (((zsi M 39 0 (0 : Int32)).1 41 7), (zsi M 39 0 (0 : Int32)))
else
if v1 = (2 : Int32) then
some (((zsi M 39 0 (0 : Int32)).1 41 8), (zsi M 39 0 (0 : Int32)))
else
if v1 = (3 : Int32) then
(f9_overs 41 (zsi M 39 0 (0 : Int32))).bind fun x1 =>
some (x1, (zsi M 39 0 (0 : Int32)))
else
if v1 = (4 : Int32) then
some (((zsi M 39 0 (0 : Int32)).1 39 32), (zsi M 39 0 (0 : Int32)))
else
if v1 = (5 : Int32) then
some (((zsi M 39 0 (0 : Int32)).1 39 18), (zsi M 39 0 (0 : Int32)))
else
if v1 = (6 : Int32) then
some (((zsi M 39 0 (0 : Int32)).1 39 1), (zsi M 39 0 (0 : Int32)))
else
if v1 = (7 : Int32) then
some (((zsi M 39 0 (0 : Int32)).1 39 7), (zsi M 39 0 (0 : Int32)))
else
some ((-100 : Int32), (zsi M 39 0 (0 : Int32)))
set_option maxRecDepth 20000 in
def f9_row (v1 : Int32) (M : zM) : Option (Int64 × zM) :=
(f9_in (Int32.toInt64 v1) (0 : Int64) (Int32.toInt64 (((zsi M 39 0 (0 : Int32)).1 39 1) - (1 : Int32)))).bind fun x1 =>
if x1 = 0 then
some ((0 : Int64), (zsi (zsi M 39 0 (0 : Int32)) 39 0 (1 : Int32)))
else
(zaJ (zsi M 39 0 (0 : Int32)) 24 40 v1).bind fun x2 =>
some (x2, (zsi M 39 0 (0 : Int32)))
set_option maxRecDepth 20000 in
def f0_tie_2 (a1 : Nat) : Nat → Int32 → zM → Option zM
  | 0, _, _ => none
  | n + 1, v2, M => if (6 : Int32) ≤ v2 then
some M
else
(f7_cellsOf a1 (0 : Int32) v2 M).bind fun x1 =>
(zpI M 12 22 v2 (zshl x1 (6 : Int32))).bind fun M2 =>
(f7_cellsOf a1 (0 : Int32) v2 M2).bind fun x3 =>
(f7_fullOf a1 (0 : Int32) M2).bind fun x4 =>
(zpI M2 12 23 v2 (zshl (x3 ^^^ x4) (6 : Int32))).bind fun M5 =>
(f7_cellsOf a1 (1 : Int32) v2 M5).bind fun x6 =>
(zpI M5 12 22 ((6 : Int32) + v2) x6).bind fun M7 =>
(f7_cellsOf a1 (1 : Int32) v2 M7).bind fun x8 =>
(f7_fullOf a1 (1 : Int32) M7).bind fun x9 =>
(zpI M7 12 23 ((6 : Int32) + v2) (x8 ^^^ x9)).bind fun M10 =>
f0_tie_2 a1 n (v2 + (1 : Int32)) M10
set_option maxRecDepth 20000 in
def f0_tie (a1 : Nat) (M : zM) : Option zM :=
f0_tie_2 a1 zfuel (0 : Int32) M
set_option maxRecDepth 20000 in
def f0_isTogether (a1 : Nat) (M : zM) : Option (Int32 × zM) :=
(f0_tie a1 M).bind fun M1 =>
(f7_all a1 M1).bind fun x2 =>
(f0_areTogether x2 M1).bind fun x3 =>
(zbl x3).bind fun x4 =>
some (x3, M1)
set_option maxRecDepth 20000 in
def f0_tabulate_93 (a1 : Nat) (k53 : Int32 → Int32 → Int32 → zM → Option zM) (v4 : Int32) (v5 : Int32) (v6 : Int32) (M : zM) : Option zM :=
if ((v5 - v4) &&& v4) = 0 then
some M
else
k53 v4 ((v5 - v4) &&& v4) (v6 + (1 : Int32)) M
set_option maxRecDepth 20000 in
def f0_tabulate_53 (a1 : Nat) : Nat → Int32 → Int32 → Int32 → zM → Option zM
  | 0, _, _, _, _ => none
  | n + 1, v4, v5, v6, M => if (4096 : Int32) ≤ v6 then
some M
else
(f0_areTogether v5 M).bind fun x1 =>
if x1 = 0 then
f0_tabulate_93 a1 (f0_tabulate_53 a1 n) v4 v5 v6 M
else
(f0_mark 24 v5 M).bind fun M2 =>
(fJ6_bitCount v5).bind fun x3 =>
(zaI M2 13 26 x3).bind fun x4 =>
(zpI M2 13 26 x3 (x4 + (1 : Int32))).bind fun M5 =>
f0_tabulate_93 a1 (f0_tabulate_53 a1 n) v4 v5 v6 M5
set_option maxRecDepth 20000 in
def f0_tabulate (a1 : Nat) (M : zM) : Option zM :=
(f7_shape a1 M).bind fun x1 =>
if (lg_cmp x1 (M.2 21 5)) = 0 then
some M
else
(f0_tie a1 (zsj M 21 5 x1)).bind fun M2 =>
(fJ7_fillJ 24 64 (0 : Int64) M2).bind fun M3 =>
(fJ7_fillI 26 13 (0 : Int32) M3).bind fun M4 =>
(f7_all a1 M4).bind fun x5 =>
f0_tabulate_53 a1 zfuel x5 (0 : Int32) (0 : Int32) M4
set_option maxRecDepth 20000 in
def f0_longestTaking_76 (k39 : Int32 → Int32 → Int32 → Int32 → zM → Option (Int32 × zM)) (v1 : Int32) (v2 : Int32) (v3 : Int32) (v4 : Int32) (M : zM) : Option (Int32 × zM) :=
k39 v1 v2 ((v3 - (1 : Int32)) &&& v1) (v4 + (1 : Int32)) M
set_option maxRecDepth 20000 in
def f0_longestTaking_88 (v1 : Int32) (v2 : Int32) (M : zM) : Option (Int32 × zM) :=
(fJ6_bitCount v1).bind fun x1 =>
some ((x1 - v2), M)
set_option maxRecDepth 20000 in
def f0_longestTaking_39 : Nat → Int32 → Int32 → Int32 → Int32 → zM → Option (Int32 × zM)
  | 0, _, _, _, _, _ => none
  | n + 1, v1, v2, v3, v4, M => if (4096 : Int32) ≤ v4 then
f0_longestTaking_88 v1 v2 M
else
if v3 = 0 then
f0_longestTaking_88 v1 v2 M
else
(f0_isIn 25 v3 M).bind fun x1 =>
if x1 = 0 then
f0_longestTaking_76 (f0_longestTaking_39 n) v1 v2 v3 v4 M
else
(fJ6_bitCount v3).bind fun x2 =>
(f0_markTakings v3 M).bind fun M3 =>
f0_longestTaking_76 (f0_longestTaking_39 n) v1 (zmin v2 x2) v3 v4 M3
set_option maxRecDepth 20000 in
def f0_longestTaking (v1 : Int32) (M : zM) : Option (Int32 × zM) :=
(f0_isIn 24 v1 M).bind fun x1 =>
if x1 = 0 then
some ((0 : Int32), M)
else
(fJ7_fillJ 25 64 (0 : Int64) M).bind fun M2 =>
(f0_mark 25 v1 M2).bind fun M3 =>
(fJ6_bitCount v1).bind fun x4 =>
f0_longestTaking_39 zfuel v1 x4 v1 (0 : Int32) M3
set_option maxRecDepth 20000 in
def f0_winningTake_52 (k12 : Int32 → Int32 → Int32 → zM → Option (Int32 × zM)) (v1 : Int32) (v2 : Int32) (v3 : Int32) (M : zM) : Option (Int32 × zM) :=
k12 v1 ((v2 - v1) &&& v1) (v3 + (1 : Int32)) M
set_option maxRecDepth 20000 in
def f0_winningTake_64 (v1 : Int32) (M : zM) : Option (Int32 × zM) :=
(f0_leastTake v1 M).bind fun x1 =>
some (x1, M)
set_option maxRecDepth 20000 in
def f0_winningTake_12 : Nat → Int32 → Int32 → Int32 → zM → Option (Int32 × zM)
  | 0, _, _, _, _ => none
  | n + 1, v1, v2, v3, M => if (4096 : Int32) ≤ v3 then
f0_winningTake_64 v1 M
else
if v2 = v1 then
f0_winningTake_64 v1 M
else
(f0_isIn 24 v2 M).bind fun x1 =>
if x1 = 0 then
f0_winningTake_52 (f0_winningTake_12 n) v1 v2 v3 M
else
(f0_leastTake v2 M).bind fun x2 =>
if x2 = (-1 : Int32) then
f0_winningTake_52 (f0_winningTake_12 n) v1 v2 v3 M
else
(f0_mark 25 v2 M).bind fun M3 =>
f0_winningTake_52 (f0_winningTake_12 n) v1 v2 v3 M3
set_option maxRecDepth 20000 in
def f0_winningTake (v1 : Int32) (M : zM) : Option (Int32 × zM) :=
(fJ7_fillJ 25 64 (0 : Int64) M).bind fun M1 =>
f0_winningTake_12 zfuel v1 (0 : Int32) (0 : Int32) M1
set_option maxRecDepth 20000 in
def f1_narrow_65 (a1 : Nat) (k39 : Int32 → Int32 → Int32 → Int32 → zM → Option zM) (v2 : Int32) (v3 : Int32) (v5 : Int32) (s0 : Int32) (M : zM) : Option zM :=
k39 v2 v3 s0 (v5 + (-1 : Int32)) M
set_option maxRecDepth 20000 in
def f1_narrow_39 (a1 : Nat) (k73 : Int32 → Int32 → Int32 → zM → Option zM) : Nat → Int32 → Int32 → Int32 → Int32 → zM → Option zM
  | 0, _, _, _, _, _ => none
  | n + 1, v2, v3, v4, v5, M => if v5 < 0 then
k73 v2 v3 v4 M
else
if ((zushr v2 v5) &&& (1 : Int32)) = 0 then
f1_narrow_65 a1 (f1_narrow_39 a1 k73 n) v2 v3 v5 v4 M
else
(f8_without v4 v5).bind fun x1 =>
f1_narrow_65 a1 (f1_narrow_39 a1 k73 n) v2 v3 v5 x1 M
set_option maxRecDepth 20000 in
def f1_narrow_73 (a1 : Nat) (k15 : Int32 → Int32 → zM → Option zM) (v2 : Int32) (v3 : Int32) (v4 : Int32) (M : zM) : Option zM :=
(zpI M 6 28 v3 v4).bind fun M1 =>
k15 v2 (v3 + (1 : Int32)) M1
set_option maxRecDepth 20000 in
def f1_narrow_15 (a1 : Nat) : Nat → Int32 → Int32 → zM → Option zM
  | 0, _, _, _ => none
  | n + 1, v2, v3, M => if (M.1 a1 0) ≤ v3 then
some M
else
(f7_cellsOf a1 (0 : Int32) v3 M).bind fun x1 =>
f1_narrow_39 a1 (f1_narrow_73 a1 (f1_narrow_15 a1 n)) zfuel v2 v3 x1 ((M.1 a1 1) - (1 : Int32)) M
set_option maxRecDepth 20000 in
def f1_narrow (a1 : Nat) (v2 : Int32) (M : zM) : Option zM :=
(fJ6_bitCount v2).bind fun x1 =>
f1_narrow_15 a1 zfuel v2 (0 : Int32) (zsi M 27 1 ((M.1 a1 1) - x1))
set_option maxRecDepth 20000 in
def f2_push_74 (a0 : Nat) (n0 : Nat) (v1 : Int64) (v3 : Int32) (M : zM) : Option zM :=
(f2_put a0 n0 (M.1 a0 2) v1 v3 M).bind fun M1 =>
some (zsi M1 a0 2 ((M1.1 a0 2) + (1 : Int32)))
set_option maxRecDepth 20000 in
def f2_push_15 (a0 : Nat) (n0 : Nat) : Nat → Int64 → Int32 → Int32 → zM → Option zM
  | 0, _, _, _, _ => none
  | n + 1, v1, v3, v4, M => if (Int32.ofNat n0) ≤ v4 then
f2_push_74 a0 n0 v1 v3 (zsi M a0 2 ((Int32.ofNat n0) - (1 : Int32)))
else
(zaJ M n0 (a0 + 1) v4).bind fun x1 =>
(zpJ M n0 (a0 + 1) (v4 - (1 : Int32)) x1).bind fun M2 =>
(zaI M2 n0 (a0 + 2) v4).bind fun x3 =>
(zpI M2 n0 (a0 + 2) (v4 - (1 : Int32)) x3).bind fun M4 =>
f2_push_15 a0 n0 n v1 v3 (v4 + (1 : Int32)) M4
set_option maxRecDepth 20000 in
def f2_push (a0 : Nat) (n0 : Nat) (v1 : Int64) (v3 : Int32) (M : zM) : Option zM :=
if (M.1 a0 2) < (Int32.ofNat n0) then
f2_push_74 a0 n0 v1 v3 M
else
f2_push_15 a0 n0 zfuel v1 v3 (1 : Int32) M
set_option maxRecDepth 20000 in
def f2_bringBack (a0 : Nat) (n0 : Nat) (v1 : Int32) (a2 : Nat) (M : zM) : Option zM :=
(f2_holds a0 n0 v1 M).bind fun x1 =>
if x1 = 0 then
some M
else
(zaJ M n0 (a0 + 1) v1).bind fun x2 =>
(f7_takeShape a2 x2 M).bind fun M3 =>
(zaI M3 n0 (a0 + 2) v1).bind fun x4 =>
some (zsi M3 a2 2 x4)
set_option maxRecDepth 20000 in
def f4_putPlainRule (a0 : Nat) (M : zM) : Option zM :=
(f4_emit a0 (1099 : Int32) M).bind fun M1 =>
(f4_emit a0 (1105 : Int32) M1).bind fun M2 =>
(f4_emit a0 (1045 : Int32) M2).bind fun M3 =>
some M3
set_option maxRecDepth 20000 in
def f4_takesThing_91 (a0 : Nat) (v1 : Int32) (v2 : Int32) (M : zM) : Option (Int32 × zM) :=
(f4_emit a0 (if v2 = 0 then ((1000 : Int32) + v1) else (v1 - (48 : Int32))) M).bind fun M1 =>
some ((1 : Int32), (zsi (zsi M1 a0 6 (if v2 = 0 then (3 : Int32) else (1 : Int32))) a0 7 (0 : Int32)))
set_option maxRecDepth 20000 in
def f4_takesThing (a0 : Nat) (v1 : Int32) (M : zM) : Option (Int32 × zM) :=
if v1 = (45 : Int32) then
(f4_hold a0 (1256 : Int32) M).bind fun M1 =>
some ((1 : Int32), M1)
else
if v1 = (40 : Int32) then
if (M.1 a0 5) < (4 : Int32) then
(zpZ (zsi M a0 5 ((M.1 a0 5) + (1 : Int32))) 5 (a0 + 3) ((zsi M a0 5 ((M.1 a0 5) + (1 : Int32))).1 a0 5) (0 : Int32)).bind fun M1 =>
(f4_hold a0 (1040 : Int32) M1).bind fun M2 =>
some ((1 : Int32), M2)
else
some ((0 : Int32), M)
else
if (if v1 < (48 : Int32) then (0 : Int32) else (if (57 : Int32) < v1 then (0 : Int32) else (1 : Int32))) = 0 then
(f4_isTrait v1).bind fun x1 =>
if x1 = 0 then
some ((0 : Int32), M)
else
f4_takesThing_91 a0 v1 (if v1 < (48 : Int32) then (0 : Int32) else (if (57 : Int32) < v1 then (0 : Int32) else (1 : Int32))) M
else
f4_takesThing_91 a0 v1 (if v1 < (48 : Int32) then (0 : Int32) else (if (57 : Int32) < v1 then (0 : Int32) else (1 : Int32))) M
set_option maxRecDepth 20000 in
def f4_takesJoin_152 (a0 : Nat) (v1 : Int32) (v2 : Int32) (M : zM) : Option (Int32 × zM) :=
(zaI M 5 (a0 + 3) (M.1 a0 5)).bind fun x1 =>
(zpZ M 5 (a0 + 3) (M.1 a0 5) (if x1 = 0 then (if v2 = (1 : Int32) then (1 : Int32) else (0 : Int32)) else (1 : Int32))).bind fun M2 =>
(f4_release a0 v2 M2).bind fun M3 =>
(f4_hold a0 ((1000 : Int32) + v1) M3).bind fun M4 =>
some ((1 : Int32), (zsi M4 a0 7 (1 : Int32)))
set_option maxRecDepth 20000 in
def f4_takesJoin_72 (a0 : Nat) (v1 : Int32) (M : zM) : Option (Int32 × zM) :=
if v1 = (41 : Int32) then
if (1 : Int32) ≤ (M.1 a0 5) then
(f4_release a0 (1 : Int32) M).bind fun M1 =>
some ((1 : Int32), (zsi (zsi (zsi M1 a0 3 ((M1.1 a0 3) - (1 : Int32))) a0 5 (((zsi M1 a0 3 ((M1.1 a0 3) - (1 : Int32))).1 a0 5) - (1 : Int32))) a0 6 (3 : Int32)))
else
some ((0 : Int32), M)
else
(f4_bindingOf ((1000 : Int32) + v1)).bind fun x1 =>
if x1 = 0 then
some ((0 : Int32), M)
else
if x1 = (1 : Int32) then
(zaI M 5 (a0 + 3) (M.1 a0 5)).bind fun x2 =>
if x2 = 0 then
f4_takesJoin_152 a0 v1 x1 M
else
some ((0 : Int32), M)
else
f4_takesJoin_152 a0 v1 x1 M
set_option maxRecDepth 20000 in
def f4_takesJoin (a0 : Nat) (v1 : Int32) (M : zM) : Option (Int32 × zM) :=
if v1 < (48 : Int32) then
f4_takesJoin_72 a0 v1 M
else
if (57 : Int32) < v1 then
f4_takesJoin_72 a0 v1 M
else
if (3 : Int32) ≤ (M.1 a0 6) then
some ((0 : Int32), M)
else
if (1 : Int32) ≤ (M.1 a0 1) then
(zaI M 40 (a0 + 1) ((M.1 a0 1) - (1 : Int32))).bind fun x1 =>
(zpI M 40 (a0 + 1) ((M.1 a0 1) - (1 : Int32)) ((((10 : Int32) * x1) + v1) - (48 : Int32))).bind fun M2 =>
some ((1 : Int32), (zsi M2 a0 6 ((M2.1 a0 6) + (1 : Int32))))
else
some ((0 : Int32), M)
set_option maxRecDepth 20000 in
def f4_traitOf (v0 : Int32) (a1 : Nat) (v2 : Int32) (v3 : Int32) (M : zM) : Option Int32 :=
if v0 = (99 : Int32) then
(f7_changesOf a1 v2 v3 M).bind fun x1 =>
some x1
else
if v0 = (100 : Int32) then
some (zrem (M.1 a1 2) (7 : Int32))
else
if v0 = (101 : Int32) then
if v3 = 0 then
some (1 : Int32)
else
(f7_sizeOf a1 v2 M).bind fun x1 =>
some (if v3 = (x1 - (1 : Int32)) then (1 : Int32) else (0 : Int32))
else
if v0 = (102 : Int32) then
some (zrem (M.1 a1 2) (7 : Int32))
else
if v0 = (103 : Int32) then
some (zrem (M.1 a1 2) (7 : Int32))
else
if v0 = (104 : Int32) then
some (zrem (M.1 a1 2) (7 : Int32))
else
if v0 = (105 : Int32) then
some v3
else
if v0 = (106 : Int32) then
some (zrem (M.1 a1 2) (7 : Int32))
else
if v0 = (107 : Int32) then
some v2
else
if v0 = (108 : Int32) then
(f7_sizeOf a1 ((1 : Int32) - v2) M).bind fun x1 =>
some x1
else
if v0 = (109 : Int32) then
some (zrem (M.1 a1 2) (7 : Int32))
else
if v0 = (110 : Int32) then
some (zrem (M.1 a1 2) (7 : Int32))
else
if v0 = (111 : Int32) then
(f7_cellsOf a1 v2 v3 M).bind fun x1 =>
(fJ6_bitCount x1).bind fun x2 =>
some x2
else
if v0 = (112 : Int32) then
some (zrem (M.1 a1 2) (7 : Int32))
else
if v0 = (113 : Int32) then
some (zrem (M.1 a1 2) (7 : Int32))
else
if v0 = (114 : Int32) then
some (zrem (M.1 a1 2) (7 : Int32))
else
if v0 = (115 : Int32) then
(f7_likesOf a1 v2 v3 M).bind fun x1 =>
some x1
else
some (zrem (M.1 a1 2) (7 : Int32))
set_option maxRecDepth 20000 in
def f5_isSo (v0 : Int32) (v1 : Int32) (a2 : Nat) (v3 : Int32) (v4 : Int32) (M : zM) : Option Int32 :=
if v0 = (0 : Int32) then
some (if v3 = v1 then (1 : Int32) else (0 : Int32))
else
if v0 = (1 : Int32) then
(f7_cellsOf a2 v3 v4 M).bind fun x1 =>
(fJ6_bitCount x1).bind fun x2 =>
some (if x2 < v1 then (0 : Int32) else (1 : Int32))
else
if v0 = (2 : Int32) then
(f7_changesOf a2 v3 v4 M).bind fun x1 =>
some (if x1 < v1 then (0 : Int32) else (1 : Int32))
else
if v0 = (3 : Int32) then
(f7_isLoose a2 v3 v4 M).bind fun x1 =>
some (if x1 = (if v1 = (1 : Int32) then (1 : Int32) else (0 : Int32)) then (1 : Int32) else (0 : Int32))
else
some (if v1 < v4 then (0 : Int32) else (1 : Int32))
set_option maxRecDepth 20000 in
def f7_weaveIn_164 (a0 : Nat) (v1 : Int32) (M : zM) : Option (Int32 × zM) :=
(f7_settle a0 M).bind fun M1 =>
(f7_sizeOf a0 v1 M1).bind fun x2 =>
some (x2, M1)
set_option maxRecDepth 20000 in
def f7_weaveIn_62 (a0 : Nat) : Nat → Int32 → Int32 → Int32 → Int32 → zM → Option (Int32 × zM)
  | 0, _, _, _, _, _ => none
  | n + 1, v1, v2, v3, v4, M => if v4 ≤ v2 then
(zpI M 12 (a0 + 1) v2 v3).bind fun M1 =>
f7_weaveIn_164 a0 v1 (zsi M1 a0 0 ((M1.1 a0 0) + (1 : Int32)))
else
(zaI M 12 (a0 + 1) (v4 - (1 : Int32))).bind fun x1 =>
(zpI M 12 (a0 + 1) v4 x1).bind fun M2 =>
f7_weaveIn_62 a0 n v1 v2 v3 (v4 + (-1 : Int32)) M2
set_option maxRecDepth 20000 in
def f7_weaveIn_113 (a0 : Nat) : Nat → Int32 → Int32 → Int32 → Int32 → zM → Option (Int32 × zM)
  | 0, _, _, _, _, _ => none
  | n + 1, v1, v2, v3, v4, M => if (M.1 a0 0) ≤ v4 then
f7_weaveIn_164 a0 v1 (zsi M a0 1 ((M.1 a0 1) + (1 : Int32)))
else
(zaI M 12 (a0 + 1) v4).bind fun x1 =>
(f8_with x1 v2 (((zushr v3 v4) &&& (1 : Int32)) ^^^ (1 : Int32))).bind fun x2 =>
(zpI M 12 (a0 + 1) v4 x2).bind fun M3 =>
f7_weaveIn_113 a0 n v1 v2 v3 (v4 + (1 : Int32)) M3
set_option maxRecDepth 20000 in
def f7_weaveIn_9 (a0 : Nat) (v1 : Int32) (v2 : Int32) (v3 : Int32) (M : zM) : Option (Int32 × zM) :=
if v2 < 0 then
some ((-1 : Int32), M)
else
(f7_sizeOf a0 v1 M).bind fun x1 =>
if v2 ≤ x1 then
if v3 < 0 then
some ((-1 : Int32), M)
else
(f7_fullOf a0 v1 M).bind fun x2 =>
if v3 ≤ x2 then
(f7_sizeOf a0 v1 M).bind fun x3 =>
if x3 < (6 : Int32) then
if v1 = 0 then
f7_weaveIn_62 a0 zfuel v1 v2 v3 (M.1 a0 0) M
else
f7_weaveIn_113 a0 zfuel v1 v2 v3 (0 : Int32) M
else
some ((-2 : Int32), M)
else
some ((-1 : Int32), M)
else
some ((-1 : Int32), M)
set_option maxRecDepth 20000 in
def f7_weaveIn (a0 : Nat) (v1 : Int32) (v2 : Int32) (v3 : Int32) (M : zM) : Option (Int32 × zM) :=
if v1 = 0 then
f7_weaveIn_9 a0 v1 v2 v3 M
else
if v1 = (1 : Int32) then
f7_weaveIn_9 a0 v1 v2 v3 M
else
some ((-1 : Int32), M)
set_option maxRecDepth 20000 in
def f7_drawOut_137 (a0 : Nat) (v3 : Int32) (M : zM) : Option (Int32 × zM) :=
(f7_settle a0 M).bind fun M1 =>
some (v3, M1)
set_option maxRecDepth 20000 in
def f7_drawOut_47 (a0 : Nat) : Nat → Int32 → Int32 → zM → Option (Int32 × zM)
  | 0, _, _, _ => none
  | n + 1, v3, v4, M => if (M.1 a0 0) ≤ v4 then
(zpI M 12 (a0 + 1) (M.1 a0 0) (0 : Int32)).bind fun M1 =>
f7_drawOut_137 a0 v3 M1
else
(zaI M 12 (a0 + 1) (v4 + (1 : Int32))).bind fun x1 =>
(zpI M 12 (a0 + 1) v4 x1).bind fun M2 =>
f7_drawOut_47 a0 n v3 (v4 + (1 : Int32)) M2
set_option maxRecDepth 20000 in
def f7_drawOut_104 (a0 : Nat) : Nat → Int32 → Int32 → Int32 → zM → Option (Int32 × zM)
  | 0, _, _, _, _ => none
  | n + 1, v2, v3, v4, M => if (M.1 a0 0) ≤ v4 then
f7_drawOut_137 a0 v3 M
else
(zaI M 12 (a0 + 1) v4).bind fun x1 =>
(f8_without x1 v2).bind fun x2 =>
(zpI M 12 (a0 + 1) v4 x2).bind fun M3 =>
f7_drawOut_104 a0 n v2 v3 (v4 + (1 : Int32)) M3
set_option maxRecDepth 20000 in
def f7_drawOut (a0 : Nat) (v1 : Int32) (v2 : Int32) (M : zM) : Option (Int32 × zM) :=
(f7_has a0 v1 v2 M).bind fun x1 =>
if x1 = 0 then
some ((-1 : Int32), M)
else
(f7_sizeOf a0 v1 M).bind fun x2 =>
if x2 = (1 : Int32) then
some ((-2 : Int32), M)
else
(f7_cellsOf a0 v1 v2 M).bind fun x3 =>
if v1 = 0 then
f7_drawOut_47 a0 zfuel x3 v2 (zsi M a0 0 ((M.1 a0 0) - (1 : Int32)))
else
f7_drawOut_104 a0 zfuel v2 x3 (0 : Int32) (zsi M a0 1 ((M.1 a0 1) - (1 : Int32)))
set_option maxRecDepth 20000 in
def f7_turnRound_163 (a0 : Nat) (v3 : Int32) (M : zM) : Option (Int32 × zM) :=
(f7_settle a0 M).bind fun M1 =>
some (v3, M1)
set_option maxRecDepth 20000 in
def f7_turnRound_130 (a0 : Nat) : Nat → Int32 → Int32 → zM → Option (Int32 × zM)
  | 0, _, _, _ => none
  | n + 1, v3, v4, M => if (M.1 a0 0) ≤ v4 then
f7_turnRound_163 a0 v3 M
else
(zaI M 12 (a0 + 1) v4).bind fun x1 =>
(f7_turnedRound a0 x1 M).bind fun x2 =>
(zpI M 12 (a0 + 1) v4 x2).bind fun M3 =>
f7_turnRound_130 a0 n v3 (v4 + (1 : Int32)) M3
set_option maxRecDepth 20000 in
def f7_turnRound_70 (a0 : Nat) : Nat → Int32 → Int32 → Int32 → zM → Option (Int32 × zM)
  | 0, _, _, _, _ => none
  | n + 1, v2, v3, v4, M => if (v2 / (2 : Int32)) ≤ v4 then
f7_turnRound_163 a0 v3 M
else
(zaI M 12 (a0 + 1) v4).bind fun x1 =>
(zaI M 12 (a0 + 1) ((v2 - (1 : Int32)) - v4)).bind fun x2 =>
(zpI M 12 (a0 + 1) v4 x2).bind fun M3 =>
(zpI M3 12 (a0 + 1) ((v2 - (1 : Int32)) - v4) x1).bind fun M4 =>
f7_turnRound_70 a0 n v2 v3 (v4 + (1 : Int32)) M4
set_option maxRecDepth 20000 in
def f7_turnRound_22 (a0 : Nat) : Nat → Int32 → Int32 → Int32 → Int32 → zM → Option (Int32 × zM)
  | 0, _, _, _, _, _ => none
  | n + 1, v1, v2, v3, v4, M => if v2 ≤ v4 then
if v1 = 0 then
f7_turnRound_70 a0 zfuel v2 v3 (0 : Int32) M
else
f7_turnRound_130 a0 zfuel v3 (0 : Int32) M
else
(f7_cellsOf a0 v1 v4 M).bind fun x1 =>
(f7_cellsOf a0 v1 ((v2 - (1 : Int32)) - v4) M).bind fun x2 =>
f7_turnRound_22 a0 n v1 v2 (v3 + (if x1 = x2 then (0 : Int32) else (1 : Int32))) (v4 + (1 : Int32)) M
set_option maxRecDepth 20000 in
def f7_turnRound_11 (a0 : Nat) (v1 : Int32) (M : zM) : Option (Int32 × zM) :=
(f7_sizeOf a0 v1 M).bind fun x1 =>
f7_turnRound_22 a0 zfuel v1 x1 (0 : Int32) (0 : Int32) M
set_option maxRecDepth 20000 in
def f7_turnRound (a0 : Nat) (v1 : Int32) (M : zM) : Option (Int32 × zM) :=
if v1 = 0 then
f7_turnRound_11 a0 v1 M
else
if v1 = (1 : Int32) then
f7_turnRound_11 a0 v1 M
else
some ((-1 : Int32), M)
set_option maxRecDepth 20000 in
def f7_passNight_17 (a0 : Nat) (M : zM) : Option zM :=
some (zsi M a0 2 ((M.1 a0 2) + (1 : Int32)))
set_option maxRecDepth 20000 in
def f7_passNight (a0 : Nat) (v1 : Int32) (M : zM) : Option zM :=
if v1 < 0 then
f7_passNight_17 a0 M
else
(f7_drawOut a0 (v1 / (6 : Int32)) (zrem v1 (6 : Int32)) M).bind fun p1 =>
f7_passNight_17 a0 p1.2
set_option maxRecDepth 20000 in
def f8_undo (M : zM) : Option (Int32 × zM) :=
if (M.1 33 2) = 0 then
some ((-1 : Int32), M)
else
(f2_bringBack 33 15 ((zsi M 33 2 ((M.1 33 2) - (1 : Int32))).1 33 2) 1 (zsi M 33 2 ((M.1 33 2) - (1 : Int32)))).bind fun M1 =>
some ((M1.1 33 2), M1)
set_option maxRecDepth 20000 in
def f8_lefts_130 (k74 : Int32 → Int32 → Int32 → Int32 → Int32 → Int32 → Int32 → zM → Option (Int32 × zM)) (v1 : Int32) (v2 : Int32) (v3 : Int32) (v4 : Int32) (v5 : Int32) (v6 : Int32) (v7 : Int32) (M : zM) : Option (Int32 × zM) :=
k74 v1 v2 v3 v4 v5 v6 (v7 + (1 : Int32)) M
set_option maxRecDepth 20000 in
def f8_lefts_74 (k136 : Int32 → Int32 → Int32 → Int32 → Int32 → Int32 → zM → Option (Int32 × zM)) : Nat → Int32 → Int32 → Int32 → Int32 → Int32 → Int32 → Int32 → zM → Option (Int32 × zM)
  | 0, _, _, _, _, _, _, _, _ => none
  | n + 1, v1, v2, v3, v4, v5, v6, v7, M => if v4 ≤ v7 then
k136 v1 v2 v3 v4 v5 v6 M
else
(fJ6_bitCount v7).bind fun x1 =>
(fJ6_bitCount v6).bind fun x2 =>
if (x1 + x2) = v1 then
(f1_shapeWithout 1 v7 M).bind fun x3 =>
(f1_isNew x3 M).bind fun p4 =>
f8_lefts_130 (f8_lefts_74 k136 n) v1 (v2 + (1 : Int32)) (v3 + (if p4.1 = 0 then (0 : Int32) else (1 : Int32))) v4 v5 v6 v7 p4.2
else
f8_lefts_130 (f8_lefts_74 k136 n) v1 v2 v3 v4 v5 v6 v7 M
set_option maxRecDepth 20000 in
def f8_lefts_136 (k51 : Int32 → Int32 → Int32 → Int32 → Int32 → Int32 → zM → Option (Int32 × zM)) (v1 : Int32) (v2 : Int32) (v3 : Int32) (v4 : Int32) (v5 : Int32) (v6 : Int32) (M : zM) : Option (Int32 × zM) :=
k51 v1 v2 v3 v4 v5 (v6 + (1 : Int32)) M
set_option maxRecDepth 20000 in
def f8_lefts_51 : Nat → Int32 → Int32 → Int32 → Int32 → Int32 → Int32 → zM → Option (Int32 × zM)
  | 0, _, _, _, _, _, _, _ => none
  | n + 1, v1, v2, v3, v4, v5, v6, M => if v5 ≤ v6 then
(f3_tell (Int32.toInt64 v2) M).bind fun M1 =>
some (v3, M1)
else
(f1_narrow 1 v6 M).bind fun M1 =>
f8_lefts_74 (f8_lefts_136 (f8_lefts_51 n)) zfuel v1 v2 v3 v4 v5 v6 (0 : Int32) M1
set_option maxRecDepth 20000 in
def f8_lefts (v1 : Int32) (M : zM) : Option (Int32 × zM) :=
if v1 < 0 then
some ((-1 : Int32), M)
else
if v1 ≤ (4 : Int32) then
(f1_forgetShapes M).bind fun M1 =>
f8_lefts_51 zfuel v1 (0 : Int32) (0 : Int32) ((zshl (1 : Int32) (M1.1 1 0)) - (1 : Int32)) ((zshl (1 : Int32) (M1.1 1 1)) - (1 : Int32)) (0 : Int32) M1
else
some ((-1 : Int32), M)
set_option maxRecDepth 20000 in
def f8_words_75 (k33 : Int32 → Int32 → Int32 → Int32 → Int32 → Int32 → zM → Option (Int32 × zM)) (v1 : Int32) (v2 : Int32) (v3 : Int32) (v4 : Int32) (v5 : Int32) (v6 : Int32) (M : zM) : Option (Int32 × zM) :=
k33 v1 v2 v3 v4 v5 (v6 + (1 : Int32)) M
set_option maxRecDepth 20000 in
def f8_words_33 : Nat → Int32 → Int32 → Int32 → Int32 → Int32 → Int32 → zM → Option (Int32 × zM)
  | 0, _, _, _, _, _, _, _ => none
  | n + 1, v1, v2, v3, v4, v5, v6, M => if (zshl (1 : Int32) v1) ≤ v6 then
(f3_clear M).bind fun M1 =>
if v3 ≤ 0 then
some (v3, M1)
else
(f3_tell_ (Int32.toInt64 v4) (Int32.toInt64 v5) M1).bind fun M2 =>
some (v3, M2)
else
(f8_checkSum v6 v1).bind fun x1 =>
(zmod x1 (v1 + (1 : Int32))).bind fun x2 =>
if x2 = v2 then
f8_words_75 (f8_words_33 n) v1 v2 (v3 + (1 : Int32)) (if v3 = 0 then v6 else v4) v6 v6 M
else
f8_words_75 (f8_words_33 n) v1 v2 v3 v4 v5 v6 M
set_option maxRecDepth 20000 in
def f8_words (v1 : Int32) (v2 : Int32) (M : zM) : Option (Int32 × zM) :=
if v1 < (1 : Int32) then
some ((-1 : Int32), M)
else
if (6 : Int32) < v1 then
some ((-1 : Int32), M)
else
if v2 < 0 then
some ((-1 : Int32), M)
else
if v2 ≤ v1 then
f8_words_33 zfuel v1 v2 (0 : Int32) (0 : Int32) (0 : Int32) (0 : Int32) M
else
some ((-1 : Int32), M)
set_option maxRecDepth 20000 in
def f8_hangs_110 (v3 : Int32) (v4 : Int32) (M : zM) : Option (Int32 × zM) :=
(f3_tell_ (Int32.toInt64 v3) (Int32.toInt64 v4) M).bind fun M1 =>
some ((if v3 = (1 : Int32) then (1 : Int32) else (0 : Int32)), M1)
set_option maxRecDepth 20000 in
def f8_hangs_29 : Nat → Int32 → Int32 → Int32 → Int32 → Int32 → zM → Option (Int32 × zM)
  | 0, _, _, _, _, _, _ => none
  | n + 1, v1, v2, v3, v4, v5, M => if (12 : Int32) ≤ v5 then
f8_hangs_110 v3 v4 M
else
if v2 = 0 then
f8_hangs_110 v3 v4 M
else
(f0_reached (v2 &&& (-v2)) v1 22 M).bind fun x1 =>
(f0_reached (v2 &&& (-v2)) v1 23 M).bind fun x2 =>
f8_hangs_29 n v1 (v2 &&& ((x1 &&& x2) ^^^ (-1 : Int32))) (v3 + (1 : Int32)) (if x1 = v1 then (x1 &&& x2) else v4) (v5 + (1 : Int32)) M
set_option maxRecDepth 20000 in
def f8_hangs (M : zM) : Option (Int32 × zM) :=
(f7_all 1 M).bind fun x1 =>
(f0_tie 1 M).bind fun M2 =>
f8_hangs_29 zfuel x1 x1 (0 : Int32) (0 : Int32) (0 : Int32) M2
set_option maxRecDepth 20000 in
def f8_spares_60 (k23 : Int32 → Int32 → Int32 → zM → Option (Int32 × zM)) (v1 : Int32) (v2 : Int32) (v3 : Int32) (M : zM) : Option (Int32 × zM) :=
k23 v1 v2 (v3 + (1 : Int32)) M
set_option maxRecDepth 20000 in
def f8_spares_23 : Nat → Int32 → Int32 → Int32 → zM → Option (Int32 × zM)
  | 0, _, _, _, _ => none
  | n + 1, v1, v2, v3, M => if (12 : Int32) ≤ v3 then
(fJ6_bitCount v2).bind fun x1 =>
(f3_tell (Int32.toInt64 x1) M).bind fun M2 =>
some (v2, M2)
else
if (v1 &&& (zshl (1 : Int32) v3)) = 0 then
f8_spares_60 (f8_spares_23 n) v1 v2 v3 M
else
(f0_areTogether (v1 ^^^ (zshl (1 : Int32) v3)) M).bind fun x1 =>
if x1 = 0 then
f8_spares_60 (f8_spares_23 n) v1 v2 v3 M
else
f8_spares_60 (f8_spares_23 n) v1 (v2 ||| (zshl (1 : Int32) v3)) v3 M
set_option maxRecDepth 20000 in
def f8_spares (M : zM) : Option (Int32 × zM) :=
(f7_all 1 M).bind fun x1 =>
(f0_tie 1 M).bind fun M2 =>
f8_spares_23 zfuel x1 (0 : Int32) (0 : Int32) M2
set_option maxRecDepth 20000 in
def f8_mends_156 (k64 : Int32 → Int32 → zM → Option (Int32 × zM)) (v1 : Int32) (v3 : Int32) (M : zM) : Option (Int32 × zM) :=
k64 v1 (v3 + (1 : Int32)) M
set_option maxRecDepth 20000 in
def f8_mends_64 : Nat → Int32 → Int32 → zM → Option (Int32 × zM)
  | 0, _, _, _ => none
  | n + 1, v1, v3, M => if ((6 : Int32) * (M.1 1 0)) ≤ v3 then
some ((-2 : Int32), M)
else
(f7_crosses 1 (v3 / (6 : Int32)) (zrem v3 (6 : Int32)) M).bind fun x1 =>
if x1 = 0 then
f8_mends_156 (f8_mends_64 n) v1 v3 M
else
(f0_turn (v3 / (6 : Int32)) (zrem v3 (6 : Int32)) M).bind fun M2 =>
(f8_mendingCell (v3 + (1 : Int32)) v1 M2).bind fun p3 =>
(f0_turn (v3 / (6 : Int32)) (zrem v3 (6 : Int32)) p3.2).bind fun M4 =>
if p3.1 = (-1 : Int32) then
f8_mends_156 (f8_mends_64 n) v1 v3 M4
else
(f3_tell_ (Int32.toInt64 v3) (Int32.toInt64 p3.1) M4).bind fun M5 =>
some ((2 : Int32), M5)
set_option maxRecDepth 20000 in
def f8_mends (M : zM) : Option (Int32 × zM) :=
(f7_all 1 M).bind fun x1 =>
(f0_tie 1 M).bind fun M2 =>
(f0_areTogether x1 M2).bind fun x3 =>
if x3 = 0 then
(f8_mendingCell (0 : Int32) x1 M2).bind fun p4 =>
if p4.1 = (-1 : Int32) then
f8_mends_64 zfuel x1 (0 : Int32) p4.2
else
(f3_tell (Int32.toInt64 p4.1) p4.2).bind fun M5 =>
some ((1 : Int32), M5)
else
(f3_clear M2).bind fun M4 =>
some ((0 : Int32), M4)
set_option maxRecDepth 20000 in
def f8_endures_96 (v1 : Int32) (v2 : Int32) (v3 : Int32) (M : zM) : Option (Int32 × zM) :=
(f0_longestTaking v1 M).bind fun p1 =>
(f3_tell_ (Int32.toInt64 v3) (Int32.toInt64 p1.1) p1.2).bind fun M2 =>
some (v2, M2)
set_option maxRecDepth 20000 in
def f8_endures_74 (k30 : Int32 → Int32 → Int32 → Int32 → Int32 → zM → Option (Int32 × zM)) (v1 : Int32) (v2 : Int32) (v3 : Int32) (v4 : Int32) (v5 : Int32) (M : zM) : Option (Int32 × zM) :=
if ((v4 - v1) &&& v1) = 0 then
f8_endures_96 v1 v2 v3 M
else
k30 v1 v2 v3 ((v4 - v1) &&& v1) (v5 + (1 : Int32)) M
set_option maxRecDepth 20000 in
def f8_endures_30 : Nat → Int32 → Int32 → Int32 → Int32 → Int32 → zM → Option (Int32 × zM)
  | 0, _, _, _, _, _, _ => none
  | n + 1, v1, v2, v3, v4, v5, M => if (4096 : Int32) ≤ v5 then
f8_endures_96 v1 v2 v3 M
else
(fJ6_bitCount v4).bind fun x1 =>
if v2 ≤ x1 then
f8_endures_74 (f8_endures_30 n) v1 v2 v3 v4 v5 M
else
(f0_isIn 24 (v1 ^^^ v4) M).bind fun x2 =>
if x2 = 0 then
f8_endures_74 (f8_endures_30 n) v1 x1 v4 v4 v5 M
else
f8_endures_74 (f8_endures_30 n) v1 v2 v3 v4 v5 M
set_option maxRecDepth 20000 in
def f8_endures (M : zM) : Option (Int32 × zM) :=
(f0_tabulate 1 M).bind fun M1 =>
(f7_all 1 M1).bind fun x2 =>
f8_endures_30 zfuel x2 (13 : Int32) (0 : Int32) (0 : Int32) (0 : Int32) M1
set_option maxRecDepth 20000 in
def f8_differs_130 (k92 : Int32 → Int32 → Int32 → Int32 → Int32 → zM → Option (Int32 × zM)) (v2 : Int32) (v3 : Int32) (v4 : Int32) (v5 : Int32) (v6 : Int32) (M : zM) : Option (Int32 × zM) :=
k92 v2 v3 v4 v5 (v6 + (1 : Int32)) M
set_option maxRecDepth 20000 in
def f8_differs_92 (k136 : Int32 → Int32 → Int32 → Int32 → zM → Option (Int32 × zM)) : Nat → Int32 → Int32 → Int32 → Int32 → Int32 → zM → Option (Int32 × zM)
  | 0, _, _, _, _, _, _ => none
  | n + 1, v2, v3, v4, v5, v6, M => if (M.1 1 1) ≤ v6 then
k136 v2 v3 v4 v5 M
else
(f8_differences v5 v6 M).bind fun x1 =>
if v2 ≤ x1 then
f8_differs_130 (f8_differs_92 k136 n) v2 v3 v4 v5 v6 M
else
f8_differs_130 (f8_differs_92 k136 n) x1 v5 v6 v5 v6 M
set_option maxRecDepth 20000 in
def f8_differs_136 (k77 : Int32 → Int32 → Int32 → Int32 → zM → Option (Int32 × zM)) (v2 : Int32) (v3 : Int32) (v4 : Int32) (v5 : Int32) (M : zM) : Option (Int32 × zM) :=
k77 v2 v3 v4 (v5 + (1 : Int32)) M
set_option maxRecDepth 20000 in
def f8_differs_77 : Nat → Int32 → Int32 → Int32 → Int32 → zM → Option (Int32 × zM)
  | 0, _, _, _, _, _ => none
  | n + 1, v2, v3, v4, v5, M => if (M.1 1 0) ≤ v5 then
(f3_tell_ (Int32.toInt64 v2) (Int32.toInt64 v3) M).bind fun M1 =>
(f3_add (Int32.toInt64 v4) M1).bind fun M2 =>
(f8_differences (0 : Int32) (0 : Int32) M2).bind fun x3 =>
some (x3, M2)
else
f8_differs_92 (f8_differs_136 (f8_differs_77 n)) zfuel v2 v3 v4 v5 (0 : Int32) M
set_option maxRecDepth 20000 in
def f8_differs (M : zM) : Option (Int32 × zM) :=
(f7_readFrom 3 M).bind fun p1 =>
if p1.1 = (-1 : Int32) then
if ((zsi p1.2 7 1 (0 : Int32)).1 3 0) = ((zsi p1.2 7 1 (0 : Int32)).1 1 0) then
if ((zsi p1.2 7 1 (0 : Int32)).1 3 1) = ((zsi p1.2 7 1 (0 : Int32)).1 1 1) then
f8_differs_77 zfuel (37 : Int32) (0 : Int32) (0 : Int32) (0 : Int32) (zsi p1.2 7 1 (0 : Int32))
else
some ((-100 : Int32), (zsi p1.2 7 1 (0 : Int32)))
else
some ((-100 : Int32), (zsi p1.2 7 1 (0 : Int32)))
else
some (((-1 : Int32) - p1.1), (zsi p1.2 7 1 (0 : Int32)))
set_option maxRecDepth 20000 in
def f8_looks_46 (v1 : Int32) (v2 : Int32) (v3 : Int32) (s0 : Int32) (M : zM) : Option (Int32 × zM) :=
(f3_tell_ (Int32.toInt64 v1) (Int32.toInt64 v2) M).bind fun M1 =>
(f3_add (Int32.toInt64 v3) M1).bind fun M2 =>
(f3_add (Int32.toInt64 s0) M2).bind fun M3 =>
some (((((if v1 = 0 then (1 : Int32) else (0 : Int32)) + (if v2 = 0 then (2 : Int32) else (0 : Int32))) + (if v3 = 0 then (4 : Int32) else (0 : Int32))) + (if s0 = 0 then (8 : Int32) else (0 : Int32))), M3)
set_option maxRecDepth 20000 in
def f8_looks (M : zM) : Option (Int32 × zM) :=
(f8_otherwise (1 : Int32) (0 : Int32) M).bind fun x1 =>
(f8_otherwise (0 : Int32) (1 : Int32) M).bind fun x2 =>
(f8_otherwise (1 : Int32) (1 : Int32) M).bind fun x3 =>
if (M.1 1 0) = (M.1 1 1) then
(f8_otherwiseAcross M).bind fun x4 =>
f8_looks_46 x1 x2 x3 x4 M
else
f8_looks_46 x1 x2 x3 (-1 : Int32) M
set_option maxRecDepth 20000 in
def f8_game_45 (s0 : Int32) (M : zM) : Option (Int32 × zM) :=
(f3_clear M).bind fun M1 =>
if s0 = (-1 : Int32) then
some ((0 : Int32), M1)
else
(f3_tell (Int32.toInt64 s0) M1).bind fun M2 =>
some ((1 : Int32), M2)
set_option maxRecDepth 20000 in
def f8_game (M : zM) : Option (Int32 × zM) :=
(f0_tabulate 1 M).bind fun M1 =>
(f7_all 1 M1).bind fun x2 =>
(f0_isIn 24 x2 M1).bind fun x3 =>
if x3 = 0 then
f8_game_45 (-1 : Int32) M1
else
(f0_winningTake x2 M1).bind fun p4 =>
f8_game_45 p4.1 p4.2
set_option maxRecDepth 20000 in
def f8_odds_36 : Nat → Int32 → Int32 → Int64 → Int32 → zM → Option (Int32 × zM)
  | 0, _, _, _, _, _ => none
  | n + 1, v1, v2, v3, v5, M => if v2 < v5 then
(f8_power (10 : Int32) v2).bind fun x1 =>
(f8_commonDivisor v3 x1).bind fun x2 =>
if (lg_cmp x2 (0 : Int64)) ≤ 0 then
some ((0 : Int32), M)
else
(zldiv v3 x2).bind fun x3 =>
(zldiv x1 x2).bind fun x4 =>
(f3_tell_ x3 x4 M).bind fun M5 =>
some ((0 : Int32), M5)
else
(f0_holdingOf v5 M).bind fun x1 =>
(f8_power ((10 : Int32) - v1) v5).bind fun x2 =>
(f8_power v1 (v2 - v5)).bind fun x3 =>
f8_odds_36 n v1 v2 (v3 + (((Int32.toInt64 x1) * x2) * x3)) (v5 + (1 : Int32)) M
set_option maxRecDepth 20000 in
def f8_odds (v1 : Int32) (M : zM) : Option (Int32 × zM) :=
if v1 < 0 then
some ((-1 : Int32), M)
else
if v1 ≤ (10 : Int32) then
(f0_tabulate 1 M).bind fun M1 =>
(f7_threads 1 M1).bind fun x2 =>
f8_odds_36 zfuel v1 x2 (0 : Int64) (0 : Int32) M1
else
some ((-1 : Int32), M)
set_option maxRecDepth 20000 in
def f8_rests_78 (k32 : Int32 → Int32 → Int32 → Int32 → zM → Option (Int32 × zM)) (v1 : Int32) (v2 : Int32) (v3 : Int32) (v4 : Int32) (M : zM) : Option (Int32 × zM) :=
k32 v1 v2 v3 (v4 + (1 : Int32)) M
set_option maxRecDepth 20000 in
def f8_rests_75 (k32 : Int32 → Int32 → Int32 → Int32 → zM → Option (Int32 × zM)) (v1 : Int32) (v2 : Int32) (v3 : Int32) (v4 : Int32) (M : zM) : Option (Int32 × zM) :=
f8_rests_78 k32 v1 (v2 + (1 : Int32)) v3 v4 M
set_option maxRecDepth 20000 in
def f8_rests_32 (k84 : Int32 → Int32 → Int32 → zM → Option (Int32 × zM)) : Nat → Int32 → Int32 → Int32 → Int32 → zM → Option (Int32 × zM)
  | 0, _, _, _, _, _ => none
  | n + 1, v1, v2, v3, v4, M => if (9 : Int32) < v4 then
k84 v1 v2 v3 M
else
(f8_isBestAgainst v3 v4 v1).bind fun x1 =>
if x1 = 0 then
f8_rests_78 (f8_rests_32 k84 n) v1 v2 v3 v4 M
else
(f8_isBestAgainst v4 v3 v1).bind fun x2 =>
if x2 = 0 then
f8_rests_78 (f8_rests_32 k84 n) v1 v2 v3 v4 M
else
if v2 = 0 then
(f3_tell_ (Int32.toInt64 v3) (Int32.toInt64 v4) M).bind fun M3 =>
f8_rests_75 (f8_rests_32 k84 n) v1 v2 v3 v4 M3
else
f8_rests_75 (f8_rests_32 k84 n) v1 v2 v3 v4 M
set_option maxRecDepth 20000 in
def f8_rests_84 (k23 : Int32 → Int32 → Int32 → zM → Option (Int32 × zM)) (v1 : Int32) (v2 : Int32) (v3 : Int32) (M : zM) : Option (Int32 × zM) :=
k23 v1 v2 (v3 + (1 : Int32)) M
set_option maxRecDepth 20000 in
def f8_rests_23 : Nat → Int32 → Int32 → Int32 → zM → Option (Int32 × zM)
  | 0, _, _, _, _ => none
  | n + 1, v1, v2, v3, M => if (9 : Int32) < v3 then
some (v2, M)
else
f8_rests_32 (f8_rests_84 (f8_rests_23 n)) zfuel v1 v2 v3 (0 : Int32) M
set_option maxRecDepth 20000 in
def f8_rests (v1 : Int32) (M : zM) : Option (Int32 × zM) :=
if v1 < 0 then
some ((-1 : Int32), M)
else
if v1 ≤ (20 : Int32) then
(f3_clear M).bind fun M1 =>
f8_rests_23 zfuel v1 (0 : Int32) (0 : Int32) M1
else
some ((-1 : Int32), M)
