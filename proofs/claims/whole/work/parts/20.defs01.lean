set_option maxRecDepth 20000 in
def f9_readsCloth_92 (k147 : Int32 → Int32 → zM → Option (Int32 × zM)) : Nat → Int32 → Int32 → Int32 → zM → Option (Int32 × zM)
  | 0, _, _, _, _ => none
  | n + 1, v1, v2, v3, M => if (M.1 44 7) ≤ v3 then
k147 v1 v2 M
else
if v1 = 0 then
k147 v1 v2 M
else
(f9_takesOf 6 M).bind fun p1 =>
f9_readsCloth_92 k147 n (if p1.1 < 0 then (0 : Int32) else (1 : Int32)) (v2 ||| (if (if p1.1 < 0 then (0 : Int32) else (1 : Int32)) = 0 then (0 : Int32) else (zshl p1.1 v3))) (v3 + (1 : Int32)) p1.2
set_option maxRecDepth 20000 in
def f9_readsCloth_175 (k45 : Int32 → zM → Option (Int32 × zM)) (v1 : Int32) (M : zM) : Option (Int32 × zM) :=
k45 v1 M
set_option maxRecDepth 20000 in
def f9_readsCloth_147 (k45 : Int32 → zM → Option (Int32 × zM)) (v1 : Int32) (v2 : Int32) (M : zM) : Option (Int32 × zM) :=
if v1 = 0 then
f9_readsCloth_175 k45 v1 M
else
(zpI M 9 44 (M.1 44 6) v2).bind fun M1 =>
f9_readsCloth_175 k45 v1 (zsi M1 44 6 ((M1.1 44 6) + (1 : Int32)))
set_option maxRecDepth 20000 in
def f9_readsCloth_70 (k45 : Int32 → zM → Option (Int32 × zM)) (M : zM) : Option (Int32 × zM) :=
f9_readsCloth_92 (f9_readsCloth_147 k45) zfuel (if (6 : Int32) ≤ (M.1 44 6) then (0 : Int32) else (1 : Int32)) (0 : Int32) (0 : Int32) M
set_option maxRecDepth 20000 in
def f9_readsCloth_178 (v1 : Int32) (M : zM) : Option (Int32 × zM) :=
some ((if v1 = 0 then ((-1 : Int32) - (M.1 39 8)) else (0 : Int32)), M)
set_option maxRecDepth 20000 in
def f9_readsCloth_45 : Nat → Int32 → zM → Option (Int32 × zM)
  | 0, _, _ => none
  | n + 1, v1, M => if v1 = 0 then
f9_readsCloth_178 v1 M
else
if (M.1 44 6) = 0 then
f9_readsCloth_70 (f9_readsCloth_45 n) M
else
if (M.1 39 9) ≤ (M.1 39 8) then
f9_readsCloth_178 v1 M
else
f9_readsCloth_70 (f9_readsCloth_45 n) M
set_option maxRecDepth 20000 in
def f9_readsCloth (M : zM) : Option (Int32 × zM) :=
(f9_begins (80 : Int32) M).bind fun p1 =>
(f9_digitIn (1 : Int32) (6 : Int32) (zsi p1.2 44 6 (0 : Int32))).bind fun p2 =>
f9_readsCloth_45 zfuel (if ((zsi p2.2 44 7 p2.1).1 44 7) ≤ 0 then (0 : Int32) else (1 : Int32)) (zsi p2.2 44 7 p2.1)
set_option maxRecDepth 20000 in
def f9_cloth (M : zM) : Option (Int32 × zM) :=
(f9_readsCloth (zsi M 39 0 (0 : Int32))).bind fun p1 =>
if 0 ≤ p1.1 then
(f9_copies 41 44 p1.2).bind fun M2 =>
some (((zsi (zsi (zsi M2 41 8 (0 : Int32)) 39 18 (0 : Int32)) 39 5 (((zsi (zsi M2 41 8 (0 : Int32)) 39 18 (0 : Int32)).1 39 5) + (1 : Int32))).1 41 6), (zsi (zsi (zsi M2 41 8 (0 : Int32)) 39 18 (0 : Int32)) 39 5 (((zsi (zsi M2 41 8 (0 : Int32)) 39 18 (0 : Int32)).1 39 5) + (1 : Int32))))
else
some (p1.1, p1.2)
set_option maxRecDepth 20000 in
def f9_codes (v1 : Int32) (M : zM) : Option zM :=
(zpI M 80 46 (M.1 39 15) v1).bind fun M1 =>
some (zsi M1 39 15 ((M1.1 39 15) + (1 : Int32)))
def f9_readsThing (rec : Nat → Int32 → zM → Option (Int32 × zM)) (M : zM) : Option (Int32 × zM) :=
(f9_takes (45 : Int32) M).bind fun p1 =>
if p1.1 = 0 then
(f9_isDigit p1.2).bind fun x2 =>
if x2 = 0 then
(f9_takesOf 7 p1.2).bind fun p3 =>
if p3.1 < 0 then
if (p3.2.1 39 10) = (4 : Int32) then
some ((0 : Int32), p3.2)
else
(f9_takes (40 : Int32) p3.2).bind fun p4 =>
if p4.1 = 0 then
some ((0 : Int32), p4.2)
else
(rec 1 (0 : Int32) (zsi p4.2 39 10 ((p4.2.1 39 10) + (1 : Int32)))).bind fun p5 =>
if p5.1 = 0 then
some ((0 : Int32), p5.2)
else
(f9_takes (41 : Int32) p5.2).bind fun p6 =>
if p6.1 = 0 then
some ((0 : Int32), p6.2)
else
some ((1 : Int32), (zsi p6.2 39 10 ((p6.2.1 39 10) - (1 : Int32))))
else
(f9_codes ((1000 : Int32) + p3.1) p3.2).bind fun M4 =>
some ((1 : Int32), M4)
else
(f9_number (3 : Int32) p1.2).bind fun p3 =>
(f9_codes p3.1 p3.2).bind fun M4 =>
some ((1 : Int32), M4)
else
(rec 0 0 p1.2).bind fun p2 =>
(f9_codes (3000 : Int32) p2.2).bind fun M3 =>
(zbl p2.1).bind fun x4 =>
some (p2.1, M3)
set_option maxRecDepth 20000 in
def f9_readsRank_50 (rec : Nat → Int32 → zM → Option (Int32 × zM)) (k24 : Int32 → Int32 → zM → Option (Int32 × zM)) (v1 : Int32) (s1 : Nat) (M : zM) : Option (Int32 × zM) :=
(f9_takesOf s1 M).bind fun p1 =>
if 0 ≤ p1.1 then
(rec 1 (v1 + (1 : Int32)) p1.2).bind fun p2 =>
if p2.1 = 0 then
some ((0 : Int32), p2.2)
else
(f9_codes (((2000 : Int32) + p1.1) + (if v1 = 0 then (0 : Int32) else (if v1 = (1 : Int32) then (3 : Int32) else (5 : Int32)))) p2.2).bind fun M3 =>
k24 v1 (if v1 ≤ 0 then (0 : Int32) else (1 : Int32)) M3
else
some ((1 : Int32), p1.2)
set_option maxRecDepth 20000 in
def f9_readsRank_24 (rec : Nat → Int32 → zM → Option (Int32 × zM)) : Nat → Int32 → Int32 → zM → Option (Int32 × zM)
  | 0, _, _, _ => none
  | n + 1, v1, v2, M => if v2 = 0 then
some ((1 : Int32), M)
else
if v1 = 0 then
f9_readsRank_50 rec (f9_readsRank_24 rec n) v1 8 M
else
if v1 = (1 : Int32) then
f9_readsRank_50 rec (f9_readsRank_24 rec n) v1 9 M
else
f9_readsRank_50 rec (f9_readsRank_24 rec n) v1 10 M
def f9_readsRank (rec : Nat → Int32 → zM → Option (Int32 × zM)) (v1 : Int32) (M : zM) : Option (Int32 × zM) :=
if v1 = (3 : Int32) then
(rec 0 0 M).bind fun p1 =>
(zbl p1.1).bind fun x2 =>
some (p1.1, p1.2)
else
(rec 1 (v1 + (1 : Int32)) M).bind fun p1 =>
if p1.1 = 0 then
some ((0 : Int32), p1.2)
else
f9_readsRank_24 rec zfuel v1 (1 : Int32) p1.2
def f9_reads : Nat → Nat → Int32 → zM → Option (Int32 × zM)
  | 0, _, _, _ => none
  | n + 1, sel, v, M => if sel = 0 then f9_readsThing (f9_reads n) M else f9_readsRank (f9_reads n) v M
set_option maxRecDepth 20000 in
def f9_readsRule_29 (v1 : Int32) (s0 : Int32) (M : zM) : Option (Int32 × zM) :=
(f9_faultOf v1 (40 : Int32) s0 M).bind fun x1 =>
some (x1, M)
set_option maxRecDepth 20000 in
def f9_readsRule (M : zM) : Option (Int32 × zM) :=
(f9_begins (40 : Int32) M).bind fun p1 =>
if p1.1 = 0 then
f9_readsRule_29 p1.1 (1 : Int32) (zsi p1.2 39 15 (0 : Int32))
else
(f9_reads 200 1 (0 : Int32) (zsi p1.2 39 15 (0 : Int32))).bind fun p2 =>
f9_readsRule_29 p1.1 (if p2.1 = 0 then (0 : Int32) else (1 : Int32)) p2.2
set_option maxRecDepth 20000 in
def f9_laysCode_7 (a1 : Nat) : Nat → Int32 → Int32 → zM → Option zM
  | 0, _, _, _ => none
  | n + 1, v2, v3, M => if v2 ≤ v3 then
some M
else
(zaI M 80 a1 v3).bind fun x1 =>
(zpI M 80 45 v3 x1).bind fun M2 =>
f9_laysCode_7 a1 n v2 (v3 + (1 : Int32)) M2
set_option maxRecDepth 20000 in
def f9_laysCode (a1 : Nat) (v2 : Int32) (M : zM) : Option zM :=
f9_laysCode_7 a1 zfuel v2 (0 : Int32) (zsi M 39 14 v2)
set_option maxRecDepth 20000 in
def f9_rule (M : zM) : Option (Int32 × zM) :=
(f9_readsRule (zsi M 39 0 (0 : Int32))).bind fun p1 =>
if p1.1 = 0 then
(f9_laysCode 46 (p1.2.1 39 15) p1.2).bind fun M2 =>
some (p1.1, M2)
else
some (p1.1, p1.2)
set_option maxRecDepth 20000 in
def f9_worked (v0 : Int32) (v1 : Int32) (v2 : Int32) : Option Int32 :=
if v0 = (0 : Int32) then
(f9_flag (if v2 ≤ v1 then (0 : Int32) else (1 : Int32))).bind fun x1 =>
some x1
else
if v0 = (1 : Int32) then
(f9_flag (if v1 ≤ v2 then (0 : Int32) else (1 : Int32))).bind fun x1 =>
some x1
else
if v0 = (2 : Int32) then
(f9_flag (if v1 = v2 then (1 : Int32) else (0 : Int32))).bind fun x1 =>
some x1
else
if v0 = (3 : Int32) then
some (v1 + v2)
else
if v0 = (4 : Int32) then
some (v1 - v2)
else
if v0 = (5 : Int32) then
some (v1 * v2)
else
if v2 = 0 then
some (0 : Int32)
else
(zdiv v1 v2).bind fun x1 =>
some x1
set_option maxRecDepth 20000 in
def f9_ruled_119 (k4 : Int32 → Int32 → zM → Option (Int32 × zM)) (v1 : Int32) (v2 : Int32) (M : zM) : Option (Int32 × zM) :=
k4 v1 (v2 + (1 : Int32)) M
set_option maxRecDepth 20000 in
def f9_ruled_115 (k4 : Int32 → Int32 → zM → Option (Int32 × zM)) (v1 : Int32) (v2 : Int32) (s1 : Int32) (s2 : Int32) (M : zM) : Option (Int32 × zM) :=
(zpI M 80 47 s1 s2).bind fun M1 =>
f9_ruled_119 k4 (v1 + (1 : Int32)) v2 M1
set_option maxRecDepth 20000 in
def f9_ruled_4 : Nat → Int32 → Int32 → zM → Option (Int32 × zM)
  | 0, _, _, _ => none
  | n + 1, v1, v2, M => if (M.1 39 14) ≤ v2 then
some ((if (M.1 39 14) = 0 then ((M.1 48 3) - (M.1 48 1)) else (M.1 47 0)), M)
else
(zaI M 80 45 v2).bind fun x1 =>
if x1 = (3000 : Int32) then
(zaI M 80 47 (v1 - (1 : Int32))).bind fun x2 =>
(zpI M 80 47 (v1 - (1 : Int32)) (-x2)).bind fun M3 =>
f9_ruled_119 (f9_ruled_4 n) v1 v2 M3
else
if x1 < (2000 : Int32) then
if x1 < (1000 : Int32) then
f9_ruled_115 (f9_ruled_4 n) v1 v2 v1 x1 M
else
(zaI M 8 48 (x1 - (1000 : Int32))).bind fun x2 =>
f9_ruled_115 (f9_ruled_4 n) v1 v2 v1 x2 M
else
(zaI M 80 47 ((v1 + (-1 : Int32)) - (1 : Int32))).bind fun x2 =>
(zaI M 80 47 (v1 + (-1 : Int32))).bind fun x3 =>
(f9_worked (x1 - (2000 : Int32)) x2 x3).bind fun x4 =>
(zpI M 80 47 ((v1 + (-1 : Int32)) - (1 : Int32)) x4).bind fun M5 =>
f9_ruled_119 (f9_ruled_4 n) (v1 + (-1 : Int32)) v2 M5
set_option maxRecDepth 20000 in
def f9_ruled (M : zM) : Option (Int32 × zM) :=
f9_ruled_4 zfuel (0 : Int32) (0 : Int32) M
set_option maxRecDepth 20000 in
def f9_pull_85 (a1 : Nat) (v2 : Int32) (v3 : Int32) (s1 : Int32) (s2 : Int32) (M : zM) : Option (Int32 × zM) :=
(f9_flag s2).bind fun x1 =>
(zpI M 8 48 s1 x1).bind fun M2 =>
(f9_alike a1 v2 v3 M2).bind fun x3 =>
(f9_ruled (zsi (zsi M2 48 6 x3) 48 7 (zrem ((zsi M2 48 6 x3).1 a1 8) (7 : Int32)))).bind fun p4 =>
some ((zmax (-99 : Int32) (zmin (99 : Int32) p4.1)), p4.2)
set_option maxRecDepth 20000 in
def f9_pull (a1 : Nat) (v2 : Int32) (v3 : Int32) (M : zM) : Option (Int32 × zM) :=
(f9_bitsOf a1 v2 v3 M).bind fun x1 =>
(fJ6_bitCount x1).bind fun x2 =>
(f9_cellsOf a1 v2 (zsi (zsi (zsi M 48 0 v2) 48 1 v3) 48 2 x2)).bind fun x3 =>
(f9_changesOf x1 x3).bind fun x4 =>
(f9_cellsOf a1 v2 (zsi (zsi (zsi (zsi M 48 0 v2) 48 1 v3) 48 2 x2) 48 3 x4)).bind fun x5 =>
if v3 = 0 then
f9_pull_85 a1 v2 v3 (5 : Int32) (1 : Int32) (zsi (zsi (zsi (zsi (zsi M 48 0 v2) 48 1 v3) 48 2 x2) 48 3 x4) 48 4 x5)
else
(f9_manyOf a1 v2 (zsi (zsi (zsi (zsi (zsi M 48 0 v2) 48 1 v3) 48 2 x2) 48 3 x4) 48 4 x5)).bind fun x6 =>
f9_pull_85 a1 v2 v3 (5 : Int32) (if v3 = (x6 - (1 : Int32)) then (1 : Int32) else (0 : Int32)) (zsi (zsi (zsi (zsi (zsi M 48 0 v2) 48 1 v3) 48 2 x2) 48 3 x4) 48 4 x5)
set_option maxRecDepth 20000 in
def f9_strongest_54 (a1 : Nat) (k9 : Int32 → Int32 → Int32 → zM → Option (Int32 × zM)) (v2 : Int32) (v3 : Int32) (v4 : Int32) (s0 : Int32) (M : zM) : Option (Int32 × zM) :=
k9 (if s0 ≤ v3 then v2 else v4) (zmax v3 s0) (v4 + (1 : Int32)) M
set_option maxRecDepth 20000 in
def f9_strongest_9 (a1 : Nat) : Nat → Int32 → Int32 → Int32 → zM → Option (Int32 × zM)
  | 0, _, _, _, _ => none
  | n + 1, v2, v3, v4, M => if (12 : Int32) ≤ v4 then
some (v2, M)
else
(f9_isThread a1 (v4 / (6 : Int32)) (zrem v4 (6 : Int32)) M).bind fun x1 =>
if x1 = 0 then
f9_strongest_54 a1 (f9_strongest_9 a1 n) v2 v3 v4 (-1000000 : Int32) M
else
(f9_pull a1 (v4 / (6 : Int32)) (zrem v4 (6 : Int32)) M).bind fun p2 =>
f9_strongest_54 a1 (f9_strongest_9 a1 n) v2 v3 v4 p2.1 p2.2
set_option maxRecDepth 20000 in
def f9_strongest (a1 : Nat) (M : zM) : Option (Int32 × zM) :=
f9_strongest_9 a1 zfuel (0 : Int32) (-1000000 : Int32) (0 : Int32) M
set_option maxRecDepth 20000 in
def f9_nextOf (a1 : Nat) (M : zM) : Option (Int32 × zM) :=
(f9_strongest a1 M).bind fun p1 =>
(f9_manyOf a1 (p1.1 / (6 : Int32)) p1.2).bind fun x2 =>
some ((if x2 = (1 : Int32) then (-2 : Int32) else p1.1), p1.2)
set_option maxRecDepth 20000 in
def f9_cell_29 (M : zM) : Option (Int32 × zM) :=
(f9_refuse M).bind fun p1 =>
some (p1.1, p1.2)
set_option maxRecDepth 20000 in
def f9_cell (v1 : Int32) (v2 : Int32) (M : zM) : Option (Int32 × zM) :=
(f9_isThread 41 (0 : Int32) v1 (zsi M 39 0 (0 : Int32))).bind fun x1 =>
if x1 = 0 then
f9_cell_29 (zsi M 39 0 (0 : Int32))
else
(f9_isThread 41 (1 : Int32) v2 (zsi M 39 0 (0 : Int32))).bind fun x2 =>
if x2 = 0 then
f9_cell_29 (zsi M 39 0 (0 : Int32))
else
(zaI (zsi M 39 0 (0 : Int32)) 9 41 v1).bind fun x3 =>
(f9_has x3 v2).bind fun x4 =>
(f9_flag x4).bind fun x5 =>
some (x5, (zsi M 39 0 (0 : Int32)))
set_option maxRecDepth 20000 in
def f9_thread_29 (M : zM) : Option (Int32 × zM) :=
(f9_refuse M).bind fun p1 =>
some (p1.1, p1.2)
set_option maxRecDepth 20000 in
def f9_thread (v1 : Int32) (v2 : Int32) (v3 : Int32) (M : zM) : Option (Int32 × zM) :=
(f9_isThread 41 v1 v2 (zsi M 39 0 (0 : Int32))).bind fun x1 =>
if x1 = 0 then
f9_thread_29 (zsi M 39 0 (0 : Int32))
else
(f9_in (Int32.toInt64 v3) (0 : Int64) (4 : Int64)).bind fun x2 =>
if x2 = 0 then
f9_thread_29 (zsi M 39 0 (0 : Int32))
else
(f9_bitsOf 41 v1 v2 (zsi M 39 0 (0 : Int32))).bind fun x3 =>
if v3 = (0 : Int32) then
some (x3, (zsi M 39 0 (0 : Int32)))
else
if v3 = (1 : Int32) then
(f9_cellsOf 41 v1 (zsi M 39 0 (0 : Int32))).bind fun x4 =>
(f9_changesOf x3 x4).bind fun x5 =>
some (x5, (zsi M 39 0 (0 : Int32)))
else
if v3 = (2 : Int32) then
(f9_alike 41 v1 v2 (zsi M 39 0 (0 : Int32))).bind fun x4 =>
some (x4, (zsi M 39 0 (0 : Int32)))
else
if v3 = (3 : Int32) then
(f9_isLoose 41 v1 v2 (zsi M 39 0 (0 : Int32))).bind fun x4 =>
(f9_flag x4).bind fun x5 =>
some (x5, (zsi M 39 0 (0 : Int32)))
else
(f9_pull 41 v1 v2 (zsi M 39 0 (0 : Int32))).bind fun p4 =>
some (((100 : Int32) + p4.1), p4.2)
set_option maxRecDepth 20000 in
def f9_sheet_117 (k46 : Int32 → Int32 → Int32 → Int32 → Int32 → Int32 → zM → Option (Int32 × zM)) (v1 : Int32) (v2 : Int32) (v4 : Int32) (v5 : Int32) (v6 : Int32) (v7 : Int32) (s1 : Int32) (s2 : Int32) (M : zM) : Option (Int32 × zM) :=
(zpI M 9 41 s1 s2).bind fun M1 =>
(zaI M1 9 41 v7).bind fun x2 =>
k46 v1 v2 v4 (v5 + x2) (v6 + v4) (v7 + (1 : Int32)) M1
set_option maxRecDepth 20000 in
def f9_sheet_46 : Nat → Int32 → Int32 → Int32 → Int32 → Int32 → Int32 → zM → Option (Int32 × zM)
  | 0, _, _, _, _, _, _, _ => none
  | n + 1, v1, v2, v4, v5, v6, v7, M => if (M.1 41 6) ≤ v7 then
some ((if v1 = (3 : Int32) then (-3 : Int32) else v5), M)
else
if v1 = (3 : Int32) then
f9_sheet_117 (f9_sheet_46 n) v1 v2 v4 v5 v6 v7 v7 (0 : Int32) M
else
if v7 < v2 then
(f9_full (M.1 41 7)).bind fun x1 =>
f9_sheet_117 (f9_sheet_46 n) v1 v2 v4 v5 v6 v7 v7 ((if v1 = 0 then (Int8.toInt32 (Int32.toInt8 v6)) else (if v1 = (1 : Int32) then (Int16.toInt32 (Int32.toInt16 v6)) else v6)) &&& x1) M
else
f9_sheet_117 (f9_sheet_46 n) v1 v2 v4 v5 v6 v7 v7 (0 : Int32) M
set_option maxRecDepth 20000 in
def f9_sheet_37 (v1 : Int32) (v2 : Int32) (v3 : Int32) (v4 : Int32) (M : zM) : Option (Int32 × zM) :=
f9_sheet_46 zfuel v1 v2 v4 (0 : Int32) v3 (0 : Int32) M
set_option maxRecDepth 20000 in
def f9_sheet (v1 : Int32) (v2 : Int32) (v3 : Int32) (v4 : Int32) (M : zM) : Option (Int32 × zM) :=
(f9_in (Int32.toInt64 v1) (0 : Int64) (3 : Int64)).bind fun x1 =>
if x1 = 0 then
some ((-1 : Int32), (zsi M 39 0 (0 : Int32)))
else
if v2 ≤ (6 : Int32) then
if v1 = (3 : Int32) then
f9_sheet_37 v1 v2 v3 v4 (zsi M 39 0 (0 : Int32))
else
if 0 ≤ v2 then
f9_sheet_37 v1 v2 v3 v4 (zsi M 39 0 (0 : Int32))
else
some ((-2 : Int32), (zsi M 39 0 (0 : Int32)))
else
some ((-1 : Int32), (zsi M 39 0 (0 : Int32)))
set_option maxRecDepth 20000 in
def f9_putsBy_2 : Nat → Int32 → zM → Option zM
  | 0, _, _ => none
  | n + 1, v1, M => if (9 : Int32) ≤ v1 then
some M
else
(zaI M 9 41 v1).bind fun x1 =>
(zpI M 144 49 (((9 : Int32) * (M.1 39 18)) + v1) x1).bind fun M2 =>
f9_putsBy_2 n (v1 + (1 : Int32)) M2
set_option maxRecDepth 20000 in
def f9_putsBy (M : zM) : Option zM :=
f9_putsBy_2 zfuel (0 : Int32) M
set_option maxRecDepth 20000 in
def f9_adds_21 : Nat → Int32 → Int32 → zM → Option (Int32 × zM)
  | 0, _, _, _ => none
  | n + 1, v1, v2, M => if (135 : Int32) ≤ v2 then
some (v1, (zsi M 39 18 ((M.1 39 18) - (1 : Int32))))
else
(zaI M 144 49 (v2 + (9 : Int32))).bind fun x1 =>
(zpI M 144 49 v2 x1).bind fun M2 =>
f9_adds_21 n v1 (v2 + (1 : Int32)) M2
set_option maxRecDepth 20000 in
def f9_adds (v1 : Int32) (M : zM) : Option (Int32 × zM) :=
if ((zsi M 39 18 ((M.1 39 18) + (1 : Int32))).1 39 18) ≤ (15 : Int32) then
some (v1, (zsi M 39 18 ((M.1 39 18) + (1 : Int32))))
else
f9_adds_21 zfuel v1 (0 : Int32) (zsi M 39 18 ((M.1 39 18) + (1 : Int32)))
set_option maxRecDepth 20000 in
def f9_counted (v1 : Int32) (M : zM) : Option (Int32 × zM) :=
if 0 ≤ v1 then
(f9_adds v1 M).bind fun p1 =>
some (p1.1, p1.2)
else
some (v1, M)
set_option maxRecDepth 20000 in
def f9_undo_26 : Nat → Int32 → zM → Option (Int32 × zM)
  | 0, _, _ => none
  | n + 1, v1, M => if (9 : Int32) ≤ v1 then
some ((M.1 39 18), M)
else
(zaI M 144 49 (((9 : Int32) * (M.1 39 18)) + v1)).bind fun x1 =>
(zpI M 9 41 v1 x1).bind fun M2 =>
f9_undo_26 n (v1 + (1 : Int32)) M2
set_option maxRecDepth 20000 in
def f9_undo (M : zM) : Option (Int32 × zM) :=
if ((zsi M 39 0 (0 : Int32)).1 39 18) = 0 then
some ((-1 : Int32), (zsi M 39 0 (0 : Int32)))
else
f9_undo_26 zfuel (0 : Int32) (zsi (zsi M 39 0 (0 : Int32)) 39 18 (((zsi M 39 0 (0 : Int32)).1 39 18) - (1 : Int32)))
set_option maxRecDepth 20000 in
def f9_nightGoes_22 (a1 : Nat) (v2 : Int32) (M : zM) : Option (Int32 × zM) :=
some (v2, (zsi M a1 8 ((M.1 a1 8) + (1 : Int32))))
set_option maxRecDepth 20000 in
def f9_nightGoes (a1 : Nat) (M : zM) : Option (Int32 × zM) :=
(f9_nextOf a1 M).bind fun p1 =>
if p1.1 < 0 then
f9_nightGoes_22 a1 p1.1 p1.2
else
(f9_goes a1 (p1.1 / (6 : Int32)) (zrem p1.1 (6 : Int32)) p1.2).bind fun M2 =>
f9_nightGoes_22 a1 p1.1 M2
set_option maxRecDepth 20000 in
def f9_goesOn_2 (a1 : Nat) : Nat → Int32 → Int32 → zM → Option zM
  | 0, _, _, _ => none
  | n + 1, v2, v3, M => if v2 ≤ v3 then
some M
else
(f9_nightGoes a1 M).bind fun p1 =>
f9_goesOn_2 a1 n v2 (v3 + (1 : Int32)) p1.2
set_option maxRecDepth 20000 in
def f9_goesOn (a1 : Nat) (v2 : Int32) (M : zM) : Option zM :=
f9_goesOn_2 a1 zfuel v2 (0 : Int32) M
set_option maxRecDepth 20000 in
def f9_weavesIn (a0 : Nat) (v1 : Int32) (v2 : Int32) (v3 : Int32) (M : zM) : Option (Int32 × zM) :=
(f9_in (Int32.toInt64 v1) (0 : Int64) (1 : Int64)).bind fun x1 =>
if x1 = 0 then
some ((-1 : Int32), M)
else
(f9_manyOf a0 v1 M).bind fun x2 =>
(f9_in (Int32.toInt64 v2) (0 : Int64) (Int32.toInt64 x2)).bind fun x3 =>
if x3 = 0 then
some ((-1 : Int32), M)
else
(f9_cellsOf a0 v1 M).bind fun x4 =>
(f9_full x4).bind fun x5 =>
(f9_in (Int32.toInt64 v3) (0 : Int64) (Int32.toInt64 x5)).bind fun x6 =>
if x6 = 0 then
some ((-1 : Int32), M)
else
(f9_manyOf a0 v1 M).bind fun x7 =>
if x7 = (6 : Int32) then
some ((-2 : Int32), M)
else
(f9_comes a0 v1 v2 v3 M).bind fun M8 =>
(f9_manyOf a0 v1 M8).bind fun x9 =>
some (x9, M8)
set_option maxRecDepth 20000 in
def f9_drawsOut (v1 : Int32) (v2 : Int32) (M : zM) : Option (Int32 × zM) :=
(f9_isThread 41 v1 v2 M).bind fun x1 =>
if x1 = 0 then
some ((-1 : Int32), M)
else
(f9_manyOf 41 v1 M).bind fun x2 =>
if x2 = (1 : Int32) then
some ((-2 : Int32), M)
else
(f9_bitsOf 41 v1 v2 M).bind fun x3 =>
(f9_goes 41 v1 v2 M).bind fun M4 =>
some (x3, M4)
set_option maxRecDepth 20000 in
def f9_flipsOne (a0 : Nat) (v1 : Int32) (v2 : Int32) (M : zM) : Option (Int32 × zM) :=
(f9_isThread a0 (0 : Int32) v1 M).bind fun x1 =>
if x1 = 0 then
some ((-1 : Int32), M)
else
(f9_isThread a0 (1 : Int32) v2 M).bind fun x2 =>
if x2 = 0 then
some ((-1 : Int32), M)
else
(zaI M 9 a0 v1).bind fun x3 =>
(zpI M 9 a0 v1 (x3 ^^^ (zshl (1 : Int32) v2))).bind fun M4 =>
(f9_overs a0 M4).bind fun x5 =>
some (x5, M4)
set_option maxRecDepth 20000 in
def f9_mirrorsAll_85 : Nat → Int32 → Int32 → Int32 → Int32 → zM → Option (Int32 × zM)
  | 0, _, _, _, _, _ => none
  | n + 1, v1, v2, v3, v4, M => if v2 ≤ v4 then
some (v3, M)
else
(f9_bitsOf 41 v1 v4 M).bind fun x1 =>
(f9_bitsOf 42 v1 v4 M).bind fun x2 =>
(f9_flag (if x1 = x2 then (0 : Int32) else (1 : Int32))).bind fun x3 =>
f9_mirrorsAll_85 n v1 v2 (v3 + x3) (v4 + (1 : Int32)) M
set_option maxRecDepth 20000 in
def f9_mirrorsAll_34 : Nat → Int32 → Int32 → Int32 → zM → Option (Int32 × zM)
  | 0, _, _, _, _ => none
  | n + 1, v1, v2, v3, M => if v2 ≤ v3 then
f9_mirrorsAll_85 zfuel v1 v2 (0 : Int32) (0 : Int32) M
else
(f9_bitsOf 42 v1 ((v2 - (1 : Int32)) - v3) M).bind fun x1 =>
(f9_goes 41 v1 v3 M).bind fun M2 =>
(f9_comes 41 v1 v3 x1 M2).bind fun M3 =>
f9_mirrorsAll_34 n v1 v2 (v3 + (1 : Int32)) M3
set_option maxRecDepth 20000 in
def f9_mirrorsAll (v1 : Int32) (M : zM) : Option (Int32 × zM) :=
(f9_in (Int32.toInt64 v1) (0 : Int64) (1 : Int64)).bind fun x1 =>
if x1 = 0 then
some ((-1 : Int32), M)
else
(f9_copies 42 41 M).bind fun M2 =>
(f9_manyOf 41 v1 M2).bind fun x3 =>
f9_mirrorsAll_34 zfuel v1 x3 (0 : Int32) M2
set_option maxRecDepth 20000 in
def f9_nights (v1 : Int32) (M : zM) : Option (Int32 × zM) :=
(f9_in (Int32.toInt64 v1) (0 : Int64) (60 : Int64)).bind fun x1 =>
if x1 = 0 then
some ((-1 : Int32), (zsi M 39 0 (0 : Int32)))
else
(f9_putsBy (zsi M 39 0 (0 : Int32))).bind fun M2 =>
(f9_goesOn 41 v1 M2).bind fun M3 =>
(f9_enters (Int32.toInt64 ((M2.1 41 6) - ((zsi M3 39 1 (0 : Int32)).1 41 6))) (zsi M3 39 1 (0 : Int32))).bind fun M4 =>
(f9_enters (Int32.toInt64 ((M2.1 41 7) - (M4.1 41 7))) M4).bind fun M5 =>
(f9_threadsOf 41 M5).bind fun x6 =>
(f9_adds x6 M5).bind fun p7 =>
some (p7.1, p7.2)
set_option maxRecDepth 20000 in
def f9_weaves (v1 : Int32) (v2 : Int32) (v3 : Int32) (M : zM) : Option (Int32 × zM) :=
(f9_putsBy (zsi M 39 0 (0 : Int32))).bind fun M1 =>
(f9_weavesIn 41 v1 v2 v3 M1).bind fun p2 =>
(f9_counted p2.1 p2.2).bind fun p3 =>
some (p3.1, p3.2)
set_option maxRecDepth 20000 in
def f9_draws (v1 : Int32) (v2 : Int32) (M : zM) : Option (Int32 × zM) :=
(f9_putsBy (zsi M 39 0 (0 : Int32))).bind fun M1 =>
(f9_drawsOut v1 v2 M1).bind fun p2 =>
(f9_counted p2.1 p2.2).bind fun p3 =>
some (p3.1, p3.2)
set_option maxRecDepth 20000 in
def f9_flips (v1 : Int32) (v2 : Int32) (M : zM) : Option (Int32 × zM) :=
(f9_putsBy (zsi M 39 0 (0 : Int32))).bind fun M1 =>
(f9_flipsOne 41 v1 v2 M1).bind fun p2 =>
(f9_counted p2.1 p2.2).bind fun p3 =>
some (p3.1, p3.2)
set_option maxRecDepth 20000 in
def f9_mirrors (v1 : Int32) (M : zM) : Option (Int32 × zM) :=
(f9_putsBy (zsi M 39 0 (0 : Int32))).bind fun M1 =>
(f9_mirrorsAll v1 M1).bind fun p2 =>
(f9_counted p2.1 p2.2).bind fun p3 =>
some (p3.1, p3.2)
set_option maxRecDepth 20000 in
def f9_readsAct_115 (v1 : Int32) (M : zM) : Option (Int32 × zM) :=
(zaI M 60 51 v1).bind fun x1 =>
some ((if x1 < 0 then (0 : Int32) else (1 : Int32)), M)
set_option maxRecDepth 20000 in
def f9_readsAct_194 (v1 : Int32) (v3 : Int32) (s0 : Int32) (M : zM) : Option (Int32 × zM) :=
(zpI M 60 53 v1 (((10 : Int32) * v3) + s0)).bind fun M1 =>
some ((if s0 < 0 then (0 : Int32) else (1 : Int32)), M1)
set_option maxRecDepth 20000 in
def f9_readsAct_160 (v1 : Int32) (M : zM) : Option (Int32 × zM) :=
(zaI M 60 52 v1).bind fun x1 =>
some ((if x1 < 0 then (0 : Int32) else (1 : Int32)), M)
set_option maxRecDepth 20000 in
def f9_readsAct_74 (v1 : Int32) (s0 : Int32) (M : zM) : Option (Int32 × zM) :=
(f9_digitIn (0 : Int32) (if s0 = 0 then (9 : Int32) else (1 : Int32)) M).bind fun p1 =>
(zpI p1.2 60 51 v1 p1.1).bind fun M2 =>
(zaI M2 60 51 v1).bind fun x3 =>
if x3 < 0 then
f9_readsAct_115 v1 M2
else
(zaI M2 60 50 v1).bind fun x4 =>
if (2 : Int32) ≤ x4 then
(f9_number (1 : Int32) M2).bind fun p5 =>
(zpI p5.2 60 52 v1 p5.1).bind fun M6 =>
(zaI M6 60 52 v1).bind fun x7 =>
if x7 < 0 then
f9_readsAct_160 v1 M6
else
(zaI M6 60 50 v1).bind fun x8 =>
if (4 : Int32) ≤ x8 then
(f9_number (1 : Int32) M6).bind fun p9 =>
if 0 ≤ p9.1 then
(f9_number (1 : Int32) p9.2).bind fun p10 =>
f9_readsAct_194 v1 p9.1 p10.1 p10.2
else
f9_readsAct_194 v1 p9.1 (-1 : Int32) p9.2
else
f9_readsAct_160 v1 M6
else
f9_readsAct_115 v1 M2
set_option maxRecDepth 20000 in
def f9_readsAct (M : zM) : Option (Int32 × zM) :=
(f9_takesOf 11 M).bind fun p1 =>
(zpI p1.2 60 50 (M.1 39 24) p1.1).bind fun M2 =>
(zaI (zsi M2 39 24 ((M2.1 39 24) + (1 : Int32))) 60 50 (M.1 39 24)).bind fun x3 =>
if 0 ≤ x3 then
(zaI (zsi M2 39 24 ((M2.1 39 24) + (1 : Int32))) 60 50 (M.1 39 24)).bind fun x4 =>
if x4 = (1 : Int32) then
f9_readsAct_74 (M.1 39 24) (1 : Int32) (zsi M2 39 24 ((M2.1 39 24) + (1 : Int32)))
else
(zaI (zsi M2 39 24 ((M2.1 39 24) + (1 : Int32))) 60 50 (M.1 39 24)).bind fun x5 =>
if x5 = (2 : Int32) then
f9_readsAct_74 (M.1 39 24) (1 : Int32) (zsi M2 39 24 ((M2.1 39 24) + (1 : Int32)))
else
(zaI (zsi M2 39 24 ((M2.1 39 24) + (1 : Int32))) 60 50 (M.1 39 24)).bind fun x6 =>
f9_readsAct_74 (M.1 39 24) (if x6 = (4 : Int32) then (1 : Int32) else (0 : Int32)) (zsi M2 39 24 ((M2.1 39 24) + (1 : Int32)))
else
some ((0 : Int32), (zsi M2 39 24 ((M2.1 39 24) + (1 : Int32))))
set_option maxRecDepth 20000 in
def f9_does (v1 : Int32) (M : zM) : Option (Int32 × zM) :=
(zaI M 60 51 v1).bind fun x1 =>
(zaI M 60 50 v1).bind fun x2 =>
if x2 = (0 : Int32) then
(f9_goesOn 41 x1 M).bind fun M3 =>
some ((1 : Int32), M3)
else
if x2 = (1 : Int32) then
(f9_mirrorsAll x1 M).bind fun p3 =>
some ((if p3.1 < 0 then (0 : Int32) else (1 : Int32)), p3.2)
else
if x2 = (2 : Int32) then
(zaI M 60 52 v1).bind fun x3 =>
(f9_drawsOut x1 x3 M).bind fun p4 =>
some ((if p4.1 < 0 then (0 : Int32) else (1 : Int32)), p4.2)
else
if x2 = (3 : Int32) then
(zaI M 60 52 v1).bind fun x3 =>
(f9_flipsOne 41 x1 x3 M).bind fun p4 =>
some ((if p4.1 < 0 then (0 : Int32) else (1 : Int32)), p4.2)
else
(zaI M 60 52 v1).bind fun x3 =>
(zaI M 60 53 v1).bind fun x4 =>
(f9_weavesIn 41 x1 x3 x4 M).bind fun p5 =>
some ((if p5.1 < 0 then (0 : Int32) else (1 : Int32)), p5.2)
set_option maxRecDepth 20000 in
def f9_work_88 (v4 : Int32) (M : zM) : Option (Int32 × zM) :=
(f9_flag (if ((zsi M 39 1 (0 : Int32)).1 39 24) ≤ v4 then (0 : Int32) else (1 : Int32))).bind fun x1 =>
(f9_enters (Int32.toInt64 x1) (zsi M 39 1 (0 : Int32))).bind fun M2 =>
(f9_threadsOf 41 M2).bind fun x3 =>
(f9_enters (Int32.toInt64 x3) M2).bind fun M4 =>
if v4 ≤ 0 then
some ((0 : Int32), M4)
else
(f9_adds v4 M4).bind fun p5 =>
some (p5.1, p5.2)
set_option maxRecDepth 20000 in
def f9_work_64 : Nat → Int32 → zM → Option (Int32 × zM)
  | 0, _, _ => none
  | n + 1, v4, M => if (M.1 39 24) ≤ v4 then
f9_work_88 v4 M
else
(f9_does v4 M).bind fun p1 =>
if p1.1 = 0 then
f9_work_88 v4 p1.2
else
f9_work_64 n (v4 + (1 : Int32)) p1.2
set_option maxRecDepth 20000 in
def f9_work_42 (v1 : Int32) (v2 : Int32) (M : zM) : Option (Int32 × zM) :=
(f9_faultOf v1 (60 : Int32) v2 M).bind fun x1 =>
if 0 ≤ x1 then
(f9_putsBy M).bind fun M2 =>
f9_work_64 zfuel (0 : Int32) M2
else
some (x1, M)
set_option maxRecDepth 20000 in
def f9_work_19 : Nat → Int32 → Int32 → zM → Option (Int32 × zM)
  | 0, _, _, _ => none
  | n + 1, v1, v2, M => if v2 = 0 then
f9_work_42 v1 v2 M
else
if (M.1 39 9) ≤ (M.1 39 8) then
f9_work_42 v1 v2 M
else
(f9_readsAct M).bind fun p1 =>
f9_work_19 n v1 p1.1 p1.2
set_option maxRecDepth 20000 in
def f9_work (M : zM) : Option (Int32 × zM) :=
(f9_begins (60 : Int32) (zsi M 39 0 (0 : Int32))).bind fun p1 =>
f9_work_19 zfuel p1.1 (1 : Int32) (zsi p1.2 39 24 (0 : Int32))
set_option maxRecDepth 20000 in
def f9_allOf (a0 : Nat) (M : zM) : Option Int32 :=
(f9_full (M.1 a0 6)).bind fun x1 =>
(f9_full (M.1 a0 7)).bind fun x2 =>
some (x1 ||| (zshl x2 (6 : Int32)))
set_option maxRecDepth 20000 in
def f9_laysAbove_40 (a1 : Nat) (k121 : Int32 → zM → Option zM) : Nat → Int32 → Int32 → zM → Option zM
  | 0, _, _, _ => none
  | n + 1, v2, v3, M => if (M.1 a1 7) ≤ v3 then
k121 v2 M
else
(zaI M 9 a1 v2).bind fun x1 =>
(f9_has x1 v3).bind fun x2 =>
(zaI M 12 54 (if x2 = 0 then ((6 : Int32) + v3) else v2)).bind fun x3 =>
(zpI M 12 54 (if x2 = 0 then ((6 : Int32) + v3) else v2) (x3 ||| (zshl (1 : Int32) (if x2 = 0 then v2 else ((6 : Int32) + v3))))).bind fun M4 =>
(zaI M4 12 55 (if x2 = 0 then v2 else ((6 : Int32) + v3))).bind fun x5 =>
(zpI M4 12 55 (if x2 = 0 then v2 else ((6 : Int32) + v3)) (x5 ||| (zshl (1 : Int32) (if x2 = 0 then ((6 : Int32) + v3) else v2)))).bind fun M6 =>
f9_laysAbove_40 a1 k121 n v2 (v3 + (1 : Int32)) M6
set_option maxRecDepth 20000 in
def f9_laysAbove_121 (a1 : Nat) (k30 : Int32 → zM → Option zM) (v2 : Int32) (M : zM) : Option zM :=
k30 (v2 + (1 : Int32)) M
set_option maxRecDepth 20000 in
def f9_laysAbove_30 (a1 : Nat) : Nat → Int32 → zM → Option zM
  | 0, _, _ => none
  | n + 1, v2, M => if (M.1 a1 6) ≤ v2 then
some M
else
f9_laysAbove_40 a1 (f9_laysAbove_121 a1 (f9_laysAbove_30 a1 n)) zfuel v2 (0 : Int32) M
set_option maxRecDepth 20000 in
def f9_laysAbove_2 (a1 : Nat) : Nat → Int32 → zM → Option zM
  | 0, _, _ => none
  | n + 1, v2, M => if (12 : Int32) ≤ v2 then
f9_laysAbove_30 a1 zfuel (0 : Int32) M
else
(zpI M 12 54 v2 (0 : Int32)).bind fun M1 =>
(zpI M1 12 55 v2 (0 : Int32)).bind fun M2 =>
f9_laysAbove_2 a1 n (v2 + (1 : Int32)) M2
set_option maxRecDepth 20000 in
def f9_laysAbove (a1 : Nat) (M : zM) : Option zM :=
f9_laysAbove_2 a1 zfuel (0 : Int32) M
set_option maxRecDepth 20000 in
def f9_reach_7 (a2 : Nat) : Nat → Int32 → Int32 → Int32 → zM → Option Int32
  | 0, _, _, _, _ => none
  | n + 1, v1, v3, v4, M => if v4 = 0 then
some v3
else
(fJ6_numberOfTrailingZeros v4).bind fun x1 =>
(zaI M 12 a2 x1).bind fun x2 =>
f9_reach_7 a2 n v1 (v3 ||| ((x2 &&& v1) &&& (v3 ^^^ (-1 : Int32)))) ((v4 &&& ((zshl (1 : Int32) x1) ^^^ (-1 : Int32))) ||| ((x2 &&& v1) &&& (v3 ^^^ (-1 : Int32)))) M
set_option maxRecDepth 20000 in
def f9_reach (v0 : Int32) (v1 : Int32) (a2 : Nat) (M : zM) : Option Int32 :=
f9_reach_7 a2 zfuel v1 (zshl (1 : Int32) v0) (zshl (1 : Int32) v0) M
set_option maxRecDepth 20000 in
def f9_isHanging (v1 : Int32) (M : zM) : Option Int32 :=
if v1 = 0 then
some (0 : Int32)
else
(fJ6_numberOfTrailingZeros v1).bind fun x1 =>
(f9_reach x1 v1 54 M).bind fun x2 =>
if x2 = v1 then
(f9_reach x1 v1 55 M).bind fun x3 =>
some (if x3 = v1 then (1 : Int32) else (0 : Int32))
else
some (0 : Int32)
set_option maxRecDepth 20000 in
def f9_doesHang (a1 : Nat) (M : zM) : Option (Int32 × zM) :=
(f9_laysAbove a1 M).bind fun M1 =>
(f9_allOf a1 M1).bind fun x2 =>
(f9_isHanging x2 M1).bind fun x3 =>
(zbl x3).bind fun x4 =>
some (x3, M1)
set_option maxRecDepth 20000 in
def f9_laysHangs_49 (k18 : Int32 → Int32 → zM → Option zM) (v1 : Int32) (v2 : Int32) (s1 : Int32) (s2 : Int32) (M : zM) : Option zM :=
(zpZ M 4096 56 s1 s2).bind fun M1 =>
k18 v1 (v2 + (1 : Int32)) M1
set_option maxRecDepth 20000 in
def f9_laysHangs_18 : Nat → Int32 → Int32 → zM → Option zM
  | 0, _, _, _ => none
  | n + 1, v1, v2, M => if v1 < v2 then
some M
else
if (v2 &&& (v1 ^^^ (-1 : Int32))) = 0 then
(f9_isHanging v2 M).bind fun x1 =>
f9_laysHangs_49 (f9_laysHangs_18 n) v1 v2 v2 (if x1 = 0 then (0 : Int32) else (1 : Int32)) M
else
f9_laysHangs_49 (f9_laysHangs_18 n) v1 v2 v2 (0 : Int32) M
set_option maxRecDepth 20000 in
def f9_laysHangs (M : zM) : Option zM :=
(f9_laysAbove 41 M).bind fun M1 =>
(f9_allOf 41 M1).bind fun x2 =>
f9_laysHangs_18 zfuel x2 (0 : Int32) M1
set_option maxRecDepth 20000 in
def f9_next (M : zM) : Option (Int32 × zM) :=
(f9_nextOf 41 (zsi M 39 0 (0 : Int32))).bind fun p1 =>
if p1.1 < 0 then
some (p1.1, p1.2)
else
(f9_pull 41 (p1.1 / (6 : Int32)) (zrem p1.1 (6 : Int32)) (zsi p1.2 39 1 (0 : Int32))).bind fun p2 =>
(f9_enters (Int32.toInt64 ((100 : Int32) + p2.1)) p2.2).bind fun M3 =>
some (p1.1, M3)
set_option maxRecDepth 20000 in
def f9_later_70 : Nat → Int32 → zM → Option (Int32 × zM)
  | 0, _, _ => none
  | n + 1, v2, M => if (M.1 42 6) ≤ v2 then
(f9_threadsOf 42 M).bind fun x1 =>
some (x1, M)
else
(zaI M 9 42 v2).bind fun x1 =>
(f9_enters (Int32.toInt64 x1) M).bind fun M2 =>
f9_later_70 n (v2 + (1 : Int32)) M2
set_option maxRecDepth 20000 in
def f9_later (v1 : Int32) (M : zM) : Option (Int32 × zM) :=
(f9_in (Int32.toInt64 v1) (0 : Int64) (60 : Int64)).bind fun x1 =>
if x1 = 0 then
some ((-1 : Int32), (zsi M 39 0 (0 : Int32)))
else
(f9_copies 42 41 (zsi M 39 0 (0 : Int32))).bind fun M2 =>
(f9_goesOn 42 v1 M2).bind fun M3 =>
(f9_enters (Int32.toInt64 ((zsi M3 39 1 (0 : Int32)).1 42 6)) (zsi M3 39 1 (0 : Int32))).bind fun M4 =>
(f9_enters (Int32.toInt64 (M4.1 42 7)) M4).bind fun M5 =>
f9_later_70 zfuel (0 : Int32) M5
set_option maxRecDepth 20000 in
def f9_falls_18 : Nat → Int32 → zM → Option (Int32 × zM)
  | 0, _, _ => none
  | n + 1, v1, M => if (60 : Int32) < v1 then
some ((-2 : Int32), M)
else
(f9_doesHang 42 M).bind fun p1 =>
if p1.1 = 0 then
(f9_threadsOf 42 (zsi p1.2 39 1 (0 : Int32))).bind fun x2 =>
(f9_enters (Int32.toInt64 x2) (zsi p1.2 39 1 (0 : Int32))).bind fun M3 =>
some (v1, M3)
else
(f9_nightGoes 42 p1.2).bind fun p2 =>
f9_falls_18 n (v1 + (1 : Int32)) p2.2
set_option maxRecDepth 20000 in
def f9_falls (M : zM) : Option (Int32 × zM) :=
(f9_copies 42 41 (zsi M 39 0 (0 : Int32))).bind fun M1 =>
f9_falls_18 zfuel (0 : Int32) M1
set_option maxRecDepth 20000 in
def f9_leaves_35 (a1 : Nat) (k11 : Int32 → Int32 → zM → Option (Int32 × zM)) (v2 : Int32) (v3 : Int32) (M : zM) : Option (Int32 × zM) :=
k11 v2 (v3 + (-1 : Int32)) M
set_option maxRecDepth 20000 in
def f9_leaves_11 (a1 : Nat) : Nat → Int32 → Int32 → zM → Option (Int32 × zM)
  | 0, _, _, _ => none
  | n + 1, v2, v3, M => if v3 < 0 then
some ((if (M.1 a1 6) ≤ 0 then (0 : Int32) else (if (M.1 a1 7) ≤ 0 then (0 : Int32) else (1 : Int32))), M)
else
(f9_has v2 v3).bind fun x1 =>
if x1 = 0 then
f9_leaves_35 a1 (f9_leaves_11 a1 n) v2 v3 M
else
(f9_goes a1 (v3 / (6 : Int32)) (zrem v3 (6 : Int32)) M).bind fun M2 =>
f9_leaves_35 a1 (f9_leaves_11 a1 n) v2 v3 M2
set_option maxRecDepth 20000 in
def f9_leaves (a1 : Nat) (v2 : Int32) (M : zM) : Option (Int32 × zM) :=
(f9_copies a1 41 M).bind fun M1 =>
f9_leaves_11 a1 zfuel v2 (11 : Int32) M1
set_option maxRecDepth 20000 in
def f9_rags_134 (k34 : Int32 → Int32 → Int32 → zM → Option (Int32 × zM)) (v2 : Int32) (v3 : Int32) (v4 : Int32) (v5 : Int32) (M : zM) : Option (Int32 × zM) :=
(f9_flag v5).bind fun x1 =>
k34 v2 (v3 + x1) (v4 + (1 : Int32)) M
set_option maxRecDepth 20000 in
def f9_rags_116 (k34 : Int32 → Int32 → Int32 → zM → Option (Int32 × zM)) (v2 : Int32) (v3 : Int32) (v4 : Int32) (s0 : Int32) (M : zM) : Option (Int32 × zM) :=
if s0 = 0 then
f9_rags_134 k34 v2 v3 v4 s0 M
else
if v3 = 0 then
(f9_enters (Int32.toInt64 v4) M).bind fun M1 =>
f9_rags_134 k34 v2 v3 v4 s0 M1
else
f9_rags_134 k34 v2 v3 v4 s0 M
set_option maxRecDepth 20000 in
def f9_rags_77 (k34 : Int32 → Int32 → Int32 → zM → Option (Int32 × zM)) (v2 : Int32) (v3 : Int32) (v4 : Int32) (s0 : Int32) (M : zM) : Option (Int32 × zM) :=
if s0 = 0 then
f9_rags_116 k34 v2 v3 v4 (0 : Int32) M
else
(f9_leaves 42 v4 M).bind fun p1 =>
if p1.1 = 0 then
f9_rags_116 k34 v2 v3 v4 (0 : Int32) p1.2
else
(f9_isAs 42 44 p1.2).bind fun x2 =>
f9_rags_116 k34 v2 v3 v4 (if x2 = 0 then (0 : Int32) else (1 : Int32)) p1.2
set_option maxRecDepth 20000 in
def f9_rags_34 : Nat → Int32 → Int32 → Int32 → zM → Option (Int32 × zM)
  | 0, _, _, _, _ => none
  | n + 1, v2, v3, v4, M => if v2 < v4 then
some (v3, M)
else
if (v4 &&& (v2 ^^^ (-1 : Int32))) = 0 then
(fJ6_bitCount v4).bind fun x1 =>
(f9_threadsOf 41 M).bind fun x2 =>
(f9_threadsOf 44 M).bind fun x3 =>
f9_rags_77 (f9_rags_34 n) v2 v3 v4 (if x1 = (x2 - x3) then (1 : Int32) else (0 : Int32)) M
else
f9_rags_77 (f9_rags_34 n) v2 v3 v4 (0 : Int32) M
set_option maxRecDepth 20000 in
def f9_rags (M : zM) : Option (Int32 × zM) :=
(f9_readsCloth (zsi M 39 0 (0 : Int32))).bind fun p1 =>
if 0 ≤ p1.1 then
(f9_allOf 41 p1.2).bind fun x2 =>
f9_rags_34 zfuel x2 (0 : Int32) (0 : Int32) (zsi p1.2 39 1 (0 : Int32))
else
some (p1.1, p1.2)
set_option maxRecDepth 20000 in
def f9_asNumber_18 (a0 : Nat) : Nat → Int64 → Int32 → zM → Option Int64
  | 0, _, _, _ => none
  | n + 1, v1, v3, M => if (M.1 a0 6) ≤ v3 then
some v1
else
(zaI M 9 a0 v3).bind fun x1 =>
f9_asNumber_18 a0 n (((64 : Int64) * v1) + (Int32.toInt64 x1)) (v3 + (1 : Int32)) M
set_option maxRecDepth 20000 in
def f9_asNumber (a0 : Nat) (M : zM) : Option Int64 :=
f9_asNumber_18 a0 zfuel (((10 : Int64) * (Int32.toInt64 (M.1 a0 6))) + (Int32.toInt64 (M.1 a0 7))) (0 : Int32) M
set_option maxRecDepth 20000 in
def f9_lefts_87 (k124 : Int32 → Int32 → Int32 → Int32 → Int32 → Int64 → Int32 → zM → Option (Int32 × zM)) : Nat → Int32 → Int32 → Int32 → Int32 → Int32 → Int64 → Int32 → Int32 → zM → Option (Int32 × zM)
  | 0, _, _, _, _, _, _, _, _, _ => none
  | n + 1, v1, v2, v3, v4, v5, v6, v8, v9, M => if v3 ≤ v9 then
k124 v1 v2 v3 v4 v5 v6 v8 M
else
if v8 = 0 then
k124 v1 v2 v3 v4 v5 v6 v8 M
else
(zaJ M 500 57 v9).bind fun x1 =>
f9_lefts_87 k124 n v1 v2 v3 v4 v5 v6 (if (lg_cmp x1 v6) = 0 then (0 : Int32) else (1 : Int32)) (v9 + (1 : Int32)) M
set_option maxRecDepth 20000 in
def f9_lefts_143 (k35 : Int32 → Int32 → Int32 → Int32 → Int32 → zM → Option (Int32 × zM)) (v1 : Int32) (v2 : Int32) (v3 : Int32) (v4 : Int32) (v5 : Int32) (M : zM) : Option (Int32 × zM) :=
k35 v1 v2 v3 v4 (v5 + (1 : Int32)) M
set_option maxRecDepth 20000 in
def f9_lefts_124 (k35 : Int32 → Int32 → Int32 → Int32 → Int32 → zM → Option (Int32 × zM)) (v1 : Int32) (v2 : Int32) (v3 : Int32) (v4 : Int32) (v5 : Int32) (v6 : Int64) (v8 : Int32) (M : zM) : Option (Int32 × zM) :=
(zpJ M 500 57 v3 v6).bind fun M1 =>
(f9_flag v8).bind fun x2 =>
f9_lefts_143 k35 v1 v2 (v3 + x2) (v4 + (1 : Int32)) v5 M1
set_option maxRecDepth 20000 in
def f9_lefts_35 : Nat → Int32 → Int32 → Int32 → Int32 → Int32 → zM → Option (Int32 × zM)
  | 0, _, _, _, _, _, _ => none
  | n + 1, v1, v2, v3, v4, v5, M => if v2 < v5 then
(f9_enters (Int32.toInt64 v4) (zsi M 39 1 (0 : Int32))).bind fun M1 =>
some (v3, M1)
else
if (v5 &&& (v2 ^^^ (-1 : Int32))) = 0 then
(fJ6_bitCount v5).bind fun x1 =>
if x1 = v1 then
(f9_leaves 42 v5 M).bind fun p2 =>
if p2.1 = 0 then
f9_lefts_143 (f9_lefts_35 n) v1 v2 v3 v4 v5 p2.2
else
(f9_asNumber 42 p2.2).bind fun x3 =>
f9_lefts_87 (f9_lefts_124 (f9_lefts_35 n)) zfuel v1 v2 v3 v4 v5 x3 (1 : Int32) (0 : Int32) p2.2
else
f9_lefts_143 (f9_lefts_35 n) v1 v2 v3 v4 v5 M
else
f9_lefts_143 (f9_lefts_35 n) v1 v2 v3 v4 v5 M
set_option maxRecDepth 20000 in
def f9_lefts (v1 : Int32) (M : zM) : Option (Int32 × zM) :=
(f9_in (Int32.toInt64 v1) (0 : Int64) (4 : Int64)).bind fun x1 =>
if x1 = 0 then
some ((-1 : Int32), (zsi M 39 0 (0 : Int32)))
else
(f9_allOf 41 (zsi M 39 0 (0 : Int32))).bind fun x2 =>
f9_lefts_35 zfuel v1 x2 (0 : Int32) (0 : Int32) (0 : Int32) (zsi M 39 0 (0 : Int32))
set_option maxRecDepth 20000 in
def f9_canBeAlike_44 (k14 : Int32 → Int32 → Int32 → Int32 → Int32 → Int32 → Option Int32) (v0 : Int32) (v1 : Int32) (v2 : Int32) (v4 : Int32) (v5 : Int32) (s0 : Int32) : Option Int32 :=
k14 v0 v1 v2 s0 v4 (v5 + (1 : Int32))
set_option maxRecDepth 20000 in
def f9_canBeAlike_14 (k51 : Int32 → Int32 → Int32 → Int32 → Int32 → Option Int32) : Nat → Int32 → Int32 → Int32 → Int32 → Int32 → Int32 → Option Int32
  | 0, _, _, _, _, _, _ => none
  | n + 1, v0, v1, v2, v3, v4, v5 => if v2 ≤ v5 then
k51 v0 v1 v2 v3 v4
else
if v3 = 0 then
(f9_without v0 v4).bind fun x1 =>
(f9_without v1 v5).bind fun x2 =>
f9_canBeAlike_44 (f9_canBeAlike_14 k51 n) v0 v1 v2 v4 v5 (if x1 = x2 then (1 : Int32) else (0 : Int32))
else
f9_canBeAlike_44 (f9_canBeAlike_14 k51 n) v0 v1 v2 v4 v5 (1 : Int32)
set_option maxRecDepth 20000 in
def f9_canBeAlike_51 (k5 : Int32 → Int32 → Int32 → Int32 → Int32 → Option Int32) (v0 : Int32) (v1 : Int32) (v2 : Int32) (v3 : Int32) (v4 : Int32) : Option Int32 :=
k5 v0 v1 v2 v3 (v4 + (1 : Int32))
set_option maxRecDepth 20000 in
def f9_canBeAlike_5 : Nat → Int32 → Int32 → Int32 → Int32 → Int32 → Option Int32
  | 0, _, _, _, _, _ => none
  | n + 1, v0, v1, v2, v3, v4 => if v2 ≤ v4 then
(zbl v3).bind fun x1 =>
some v3
else
f9_canBeAlike_14 (f9_canBeAlike_51 (f9_canBeAlike_5 n)) zfuel v0 v1 v2 v3 v4 (0 : Int32)
set_option maxRecDepth 20000 in
def f9_canBeAlike (v0 : Int32) (v1 : Int32) (v2 : Int32) : Option Int32 :=
f9_canBeAlike_5 zfuel v0 v1 v2 (0 : Int32) (0 : Int32)
set_option maxRecDepth 20000 in
def f9_outlasts_119 (k58 : Int32 → Int32 → Int32 → Int32 → Int32 → zM → Option (Int32 × zM)) (v1 : Int32) (v2 : Int32) (v4 : Int32) (v5 : Int32) (s0 : Int32) (M : zM) : Option (Int32 × zM) :=
k58 v1 v2 s0 v4 (v5 + (1 : Int32)) M
set_option maxRecDepth 20000 in
def f9_outlasts_58 (k126 : Int32 → Int32 → Int32 → Int32 → zM → Option (Int32 × zM)) : Nat → Int32 → Int32 → Int32 → Int32 → Int32 → zM → Option (Int32 × zM)
  | 0, _, _, _, _, _, _ => none
  | n + 1, v1, v2, v3, v4, v5, M => if v4 ≤ v5 then
k126 v1 v2 v3 v4 M
else
if v3 = 0 then
k126 v1 v2 v3 v4 M
else
(f9_has v2 v4).bind fun x1 =>
if x1 = 0 then
f9_outlasts_119 (f9_outlasts_58 k126 n) v1 v2 v4 v5 (1 : Int32) M
else
(f9_has v2 v5).bind fun x2 =>
if x2 = 0 then
f9_outlasts_119 (f9_outlasts_58 k126 n) v1 v2 v4 v5 (1 : Int32) M
else
(zaI M 9 41 v4).bind fun x3 =>
(zaI M 9 41 v5).bind fun x4 =>
(f9_canBeAlike x3 x4 (M.1 41 7)).bind fun x5 =>
f9_outlasts_119 (f9_outlasts_58 k126 n) v1 v2 v4 v5 (if x5 = 0 then (1 : Int32) else (0 : Int32)) M
set_option maxRecDepth 20000 in
def f9_outlasts_126 (k43 : Int32 → Int32 → Int32 → Int32 → zM → Option (Int32 × zM)) (v1 : Int32) (v2 : Int32) (v3 : Int32) (v4 : Int32) (M : zM) : Option (Int32 × zM) :=
k43 v1 v2 v3 (v4 + (1 : Int32)) M
set_option maxRecDepth 20000 in
def f9_outlasts_43 (k132 : Int32 → Int32 → Int32 → zM → Option (Int32 × zM)) : Nat → Int32 → Int32 → Int32 → Int32 → zM → Option (Int32 × zM)
  | 0, _, _, _, _, _ => none
  | n + 1, v1, v2, v3, v4, M => if (M.1 41 6) ≤ v4 then
k132 v1 v2 v3 M
else
f9_outlasts_58 (f9_outlasts_126 (f9_outlasts_43 k132 n)) zfuel v1 v2 v3 v4 (0 : Int32) M
set_option maxRecDepth 20000 in
def f9_outlasts_132 (k9 : Int32 → Int32 → zM → Option (Int32 × zM)) (v1 : Int32) (v2 : Int32) (v3 : Int32) (M : zM) : Option (Int32 × zM) :=
k9 (if v3 = 0 then v1 else v2) (v2 + (1 : Int32)) M
set_option maxRecDepth 20000 in
def f9_outlasts_9 : Nat → Int32 → Int32 → zM → Option (Int32 × zM)
  | 0, _, _, _ => none
  | n + 1, v1, v2, M => (f9_full (M.1 41 6)).bind fun x1 =>
if x1 < v2 then
(f9_enters (Int32.toInt64 v1) (zsi M 39 1 (0 : Int32))).bind fun M2 =>
(fJ6_bitCount v1).bind fun x3 =>
some (x3, M2)
else
(fJ6_bitCount v2).bind fun x2 =>
(fJ6_bitCount v1).bind fun x3 =>
f9_outlasts_43 (f9_outlasts_132 (f9_outlasts_9 n)) zfuel v1 v2 (if x2 ≤ x3 then (0 : Int32) else (1 : Int32)) (0 : Int32) M
set_option maxRecDepth 20000 in
def f9_outlasts (M : zM) : Option (Int32 × zM) :=
f9_outlasts_9 zfuel (0 : Int32) (1 : Int32) (zsi M 39 0 (0 : Int32))
set_option maxRecDepth 20000 in
def f9_words_56 (k91 : Int32 → Int32 → Int32 → Int32 → Int32 → Int32 → Int32 → zM → Option (Int32 × zM)) : Nat → Int32 → Int32 → Int32 → Int32 → Int32 → Int32 → Int32 → Int32 → zM → Option (Int32 × zM)
  | 0, _, _, _, _, _, _, _, _, _ => none
  | n + 1, v1, v2, v3, v4, v5, v6, v7, v8, M => if v1 ≤ v8 then
k91 v1 v2 v3 v4 v5 v6 v7 M
else
(f9_has v6 v8).bind fun x1 =>
f9_words_56 k91 n v1 v2 v3 v4 v5 v6 (v7 + (if x1 = 0 then (0 : Int32) else (v8 + (1 : Int32)))) (v8 + (1 : Int32)) M
set_option maxRecDepth 20000 in
def f9_words_91 (k41 : Int32 → Int32 → Int32 → Int32 → Int32 → Int32 → zM → Option (Int32 × zM)) (v1 : Int32) (v2 : Int32) (v3 : Int32) (v4 : Int32) (v5 : Int32) (v6 : Int32) (v7 : Int32) (M : zM) : Option (Int32 × zM) :=
(zmod v7 (v1 + (1 : Int32))).bind fun x1 =>
(f9_flag (if x1 = v2 then (1 : Int32) else (0 : Int32))).bind fun x2 =>
k41 v1 v2 (v3 + x2) (if (if x1 = v2 then (1 : Int32) else (0 : Int32)) = 0 then v4 else (if v3 = 0 then v6 else v4)) (if (if x1 = v2 then (1 : Int32) else (0 : Int32)) = 0 then v5 else v6) (v6 + (1 : Int32)) M
set_option maxRecDepth 20000 in
def f9_words_41 : Nat → Int32 → Int32 → Int32 → Int32 → Int32 → Int32 → zM → Option (Int32 × zM)
  | 0, _, _, _, _, _, _, _ => none
  | n + 1, v1, v2, v3, v4, v5, v6, M => (f9_full v1).bind fun x1 =>
if x1 < v6 then
if v3 ≤ 0 then
some (v3, (zsi M 39 1 (0 : Int32)))
else
(f9_enters (Int32.toInt64 v4) (zsi M 39 1 (0 : Int32))).bind fun M2 =>
(f9_enters (Int32.toInt64 v5) M2).bind fun M3 =>
some (v3, M3)
else
f9_words_56 (f9_words_91 (f9_words_41 n)) zfuel v1 v2 v3 v4 v5 v6 (0 : Int32) (0 : Int32) M
set_option maxRecDepth 20000 in
def f9_words (v1 : Int32) (v2 : Int32) (M : zM) : Option (Int32 × zM) :=
(f9_in (Int32.toInt64 v1) (1 : Int64) (6 : Int64)).bind fun x1 =>
if x1 = 0 then
some ((-1 : Int32), (zsi M 39 0 (0 : Int32)))
else
(f9_in (Int32.toInt64 v2) (0 : Int64) (Int32.toInt64 v1)).bind fun x2 =>
if x2 = 0 then
some ((-1 : Int32), (zsi M 39 0 (0 : Int32)))
else
f9_words_41 zfuel v1 v2 (0 : Int32) (-1 : Int32) (-1 : Int32) (0 : Int32) (zsi M 39 0 (0 : Int32))
set_option maxRecDepth 20000 in
def f9_loose_56 (k9 : Int32 → Int32 → zM → Option (Int32 × zM)) (v1 : Int32) (v2 : Int32) (s0 : Int32) (M : zM) : Option (Int32 × zM) :=
k9 (v1 ||| (if s0 = 0 then (0 : Int32) else (zshl (1 : Int32) v2))) (v2 + (1 : Int32)) M
set_option maxRecDepth 20000 in
def f9_loose_9 : Nat → Int32 → Int32 → zM → Option (Int32 × zM)
  | 0, _, _, _ => none
  | n + 1, v1, v2, M => if (12 : Int32) ≤ v2 then
(fJ6_bitCount (v1 &&& (63 : Int32))).bind fun x1 =>
(f9_enters (Int32.toInt64 x1) (zsi M 39 1 (0 : Int32))).bind fun M2 =>
(fJ6_bitCount (zshr v1 (6 : Int32))).bind fun x3 =>
(f9_enters (Int32.toInt64 x3) M2).bind fun M4 =>
some (v1, M4)
else
(f9_isThread 41 (v2 / (6 : Int32)) (zrem v2 (6 : Int32)) M).bind fun x1 =>
if x1 = 0 then
f9_loose_56 (f9_loose_9 n) v1 v2 (0 : Int32) M
else
(f9_isLoose 41 (v2 / (6 : Int32)) (zrem v2 (6 : Int32)) M).bind fun x2 =>
f9_loose_56 (f9_loose_9 n) v1 v2 (if x2 = 0 then (0 : Int32) else (1 : Int32)) M
set_option maxRecDepth 20000 in
def f9_loose (M : zM) : Option (Int32 × zM) :=
f9_loose_9 zfuel (0 : Int32) (0 : Int32) (zsi M 39 0 (0 : Int32))
set_option maxRecDepth 20000 in
def f9_isLooseAmong (v1 : Int32) (v2 : Int32) (M : zM) : Option Int32 :=
(zaI M 12 54 v1).bind fun x1 =>
if (x1 &&& (v2 &&& (if (6 : Int32) ≤ v1 then (63 : Int32) else (4032 : Int32)))) = 0 then
some (1 : Int32)
else
(zaI M 12 54 v1).bind fun x2 =>
some (if (x2 &&& (v2 &&& (if (6 : Int32) ≤ v1 then (63 : Int32) else (4032 : Int32)))) = (v2 &&& (if (6 : Int32) ≤ v1 then (63 : Int32) else (4032 : Int32))) then (1 : Int32) else (0 : Int32))
set_option maxRecDepth 20000 in
def f9_sheds_97 (k56 : Int32 → Int32 → Int32 → Int32 → Int32 → zM → Option (Int32 × zM)) (v1 : Int32) (v2 : Int32) (v5 : Int32) (v6 : Int32) (s0 : Int32) (s1 : Int32) (M : zM) : Option (Int32 × zM) :=
k56 v1 v2 (s0 ||| s1) v5 (v6 + (1 : Int32)) M
set_option maxRecDepth 20000 in
def f9_sheds_56 (k106 : Int32 → Int32 → Int32 → zM → Option (Int32 × zM)) : Nat → Int32 → Int32 → Int32 → Int32 → Int32 → zM → Option (Int32 × zM)
  | 0, _, _, _, _, _, _ => none
  | n + 1, v1, v2, v4, v5, v6, M => if (12 : Int32) ≤ v6 then
k106 v1 v2 v4 M
else
if v5 = 0 then
k106 v1 v2 v4 M
else
(f9_has v1 v6).bind fun x1 =>
if x1 = 0 then
f9_sheds_97 (f9_sheds_56 k106 n) v1 v2 v5 v6 v4 (0 : Int32) M
else
(f9_isLooseAmong v6 v1 M).bind fun x2 =>
f9_sheds_97 (f9_sheds_56 k106 n) v1 v2 v5 v6 v4 (if x2 = 0 then (0 : Int32) else (zshl (1 : Int32) v6)) M
set_option maxRecDepth 20000 in
def f9_sheds_106 (k25 : Int32 → Int32 → Int32 → zM → Option (Int32 × zM)) (v1 : Int32) (v2 : Int32) (v4 : Int32) (M : zM) : Option (Int32 × zM) :=
(f9_flag (if v4 = 0 then (0 : Int32) else (1 : Int32))).bind fun x1 =>
k25 (v1 &&& (v4 ^^^ (-1 : Int32))) (v2 + x1) (if v4 = 0 then (0 : Int32) else (1 : Int32)) M
set_option maxRecDepth 20000 in
def f9_sheds_25 : Nat → Int32 → Int32 → Int32 → zM → Option (Int32 × zM)
  | 0, _, _, _, _ => none
  | n + 1, v1, v2, v3, M => if v3 = 0 then
(f9_enters (Int32.toInt64 v1) (zsi M 39 1 (0 : Int32))).bind fun M1 =>
(f9_enters (Int32.toInt64 v2) M1).bind fun M2 =>
(fJ6_bitCount v1).bind fun x3 =>
some (x3, M2)
else
f9_sheds_56 (f9_sheds_106 (f9_sheds_25 n)) zfuel v1 v2 (0 : Int32) (if (v1 &&& (63 : Int32)) = 0 then (0 : Int32) else (if (zshr v1 (6 : Int32)) = 0 then (0 : Int32) else (1 : Int32))) (0 : Int32) M
set_option maxRecDepth 20000 in
def f9_sheds (M : zM) : Option (Int32 × zM) :=
(f9_laysAbove 41 (zsi M 39 0 (0 : Int32))).bind fun M1 =>
(f9_allOf 41 M1).bind fun x2 =>
f9_sheds_25 zfuel x2 (0 : Int32) (1 : Int32) M1
set_option maxRecDepth 20000 in
def f9_hangs_106 (k31 : Int32 → Int32 → Int32 → Int32 → Int32 → zM → Option (Int32 × zM)) (v1 : Int32) (v2 : Int32) (v3 : Int32) (v4 : Int32) (v5 : Int32) (M : zM) : Option (Int32 × zM) :=
k31 v1 v2 v3 v4 (v5 + (1 : Int32)) M
set_option maxRecDepth 20000 in
def f9_hangs_31 : Nat → Int32 → Int32 → Int32 → Int32 → Int32 → zM → Option (Int32 × zM)
  | 0, _, _, _, _, _, _ => none
  | n + 1, v1, v2, v3, v4, v5, M => if (12 : Int32) ≤ v5 then
(f9_enters (Int32.toInt64 v2) (zsi M 39 1 (0 : Int32))).bind fun M1 =>
(f9_enters (Int32.toInt64 v3) M1).bind fun M2 =>
(f9_flag (if v2 = (1 : Int32) then (1 : Int32) else (0 : Int32))).bind fun x3 =>
some (x3, M2)
else
(f9_has (v1 &&& (v4 ^^^ (-1 : Int32))) v5).bind fun x1 =>
if x1 = 0 then
f9_hangs_106 (f9_hangs_31 n) v1 v2 v3 v4 v5 M
else
(f9_reach v5 v1 54 M).bind fun x2 =>
(f9_reach v5 v1 55 M).bind fun x3 =>
(f9_reach v5 v1 54 M).bind fun x4 =>
f9_hangs_106 (f9_hangs_31 n) v1 (v2 + (1 : Int32)) (if x4 = v1 then (x2 &&& x3) else v3) (v4 ||| (x2 &&& x3)) v5 M
set_option maxRecDepth 20000 in
def f9_hangs (M : zM) : Option (Int32 × zM) :=
(f9_laysAbove 41 (zsi M 39 0 (0 : Int32))).bind fun M1 =>
(f9_allOf 41 M1).bind fun x2 =>
f9_hangs_31 zfuel x2 (0 : Int32) (0 : Int32) (0 : Int32) (0 : Int32) M1
set_option maxRecDepth 20000 in
def f9_spares_61 (k25 : Int32 → Int32 → Int32 → zM → Option (Int32 × zM)) (v1 : Int32) (v3 : Int32) (s0 : Int32) (s1 : Int32) (M : zM) : Option (Int32 × zM) :=
k25 v1 (s0 ||| s1) (v3 + (1 : Int32)) M
set_option maxRecDepth 20000 in
def f9_spares_25 : Nat → Int32 → Int32 → Int32 → zM → Option (Int32 × zM)
  | 0, _, _, _, _ => none
  | n + 1, v1, v2, v3, M => if (12 : Int32) ≤ v3 then
(fJ6_bitCount v2).bind fun x1 =>
(f9_enters (Int32.toInt64 x1) (zsi M 39 1 (0 : Int32))).bind fun M2 =>
some (v2, M2)
else
(f9_has v1 v3).bind fun x1 =>
if x1 = 0 then
f9_spares_61 (f9_spares_25 n) v1 v3 v2 (0 : Int32) M
else
(f9_isHanging (v1 &&& ((zshl (1 : Int32) v3) ^^^ (-1 : Int32))) M).bind fun x2 =>
f9_spares_61 (f9_spares_25 n) v1 v3 v2 (if x2 = 0 then (0 : Int32) else (zshl (1 : Int32) v3)) M
set_option maxRecDepth 20000 in
def f9_spares (M : zM) : Option (Int32 × zM) :=
(f9_laysAbove 41 (zsi M 39 0 (0 : Int32))).bind fun M1 =>
(f9_allOf 41 M1).bind fun x2 =>
f9_spares_25 zfuel x2 (0 : Int32) (0 : Int32) M1
set_option maxRecDepth 20000 in
def f9_isCell (a0 : Nat) (v1 : Int32) (M : zM) : Option Int32 :=
some (if (M.1 a0 6) ≤ (v1 / (6 : Int32)) then (0 : Int32) else (if (M.1 a0 7) ≤ (zrem v1 (6 : Int32)) then (0 : Int32) else (1 : Int32)))
set_option maxRecDepth 20000 in
def f9_mends_244 (k143 : Int32 → Int32 → zM → Option (Int32 × zM)) (v1 : Int32) (v2 : Int32) (M : zM) : Option (Int32 × zM) :=
k143 v1 (v2 + (1 : Int32)) M
set_option maxRecDepth 20000 in
def f9_mends_143 (k250 : Int32 → zM → Option (Int32 × zM)) : Nat → Int32 → Int32 → zM → Option (Int32 × zM)
  | 0, _, _, _ => none
  | n + 1, v1, v2, M => if (36 : Int32) ≤ v2 then
k250 v1 M
else
(f9_isCell 41 v1 M).bind fun x1 =>
if x1 = 0 then
k250 v1 M
else
(f9_isCell 41 v2 M).bind fun x2 =>
if x2 = 0 then
f9_mends_244 (f9_mends_143 k250 n) v1 v2 M
else
(f9_copies 42 41 M).bind fun M3 =>
(f9_flipsOne 42 (v1 / (6 : Int32)) (zrem v1 (6 : Int32)) M3).bind fun p4 =>
(f9_flipsOne 42 (v2 / (6 : Int32)) (zrem v2 (6 : Int32)) p4.2).bind fun p5 =>
(f9_doesHang 42 p5.2).bind fun p6 =>
if p6.1 = 0 then
f9_mends_244 (f9_mends_143 k250 n) v1 v2 p6.2
else
(f9_enters (Int32.toInt64 v1) (zsi p6.2 39 1 (0 : Int32))).bind fun M7 =>
(f9_enters (Int32.toInt64 v2) M7).bind fun M8 =>
some ((2 : Int32), M8)
set_option maxRecDepth 20000 in
def f9_mends_250 (k133 : Int32 → zM → Option (Int32 × zM)) (v1 : Int32) (M : zM) : Option (Int32 × zM) :=
k133 (v1 + (1 : Int32)) M
set_option maxRecDepth 20000 in
def f9_mends_133 : Nat → Int32 → zM → Option (Int32 × zM)
  | 0, _, _ => none
  | n + 1, v1, M => if (36 : Int32) ≤ v1 then
some ((-2 : Int32), M)
else
f9_mends_143 (f9_mends_250 (f9_mends_133 n)) zfuel v1 (v1 + (1 : Int32)) M
set_option maxRecDepth 20000 in
def f9_mends_125 (k57 : Int32 → zM → Option (Int32 × zM)) (v1 : Int32) (M : zM) : Option (Int32 × zM) :=
k57 (v1 + (1 : Int32)) M
set_option maxRecDepth 20000 in
def f9_mends_57 : Nat → Int32 → zM → Option (Int32 × zM)
  | 0, _, _ => none
  | n + 1, v1, M => if (36 : Int32) ≤ v1 then
f9_mends_133 zfuel (0 : Int32) M
else
(f9_isCell 41 v1 M).bind fun x1 =>
if x1 = 0 then
f9_mends_125 (f9_mends_57 n) v1 M
else
(f9_copies 42 41 M).bind fun M2 =>
(f9_flipsOne 42 (v1 / (6 : Int32)) (zrem v1 (6 : Int32)) M2).bind fun p3 =>
(f9_doesHang 42 p3.2).bind fun p4 =>
if p4.1 = 0 then
f9_mends_125 (f9_mends_57 n) v1 p4.2
else
(f9_enters (Int32.toInt64 v1) (zsi p4.2 39 1 (0 : Int32))).bind fun M5 =>
some ((1 : Int32), M5)
set_option maxRecDepth 20000 in
def f9_mends (M : zM) : Option (Int32 × zM) :=
(f9_copies 42 41 (zsi M 39 0 (0 : Int32))).bind fun M1 =>
(f9_doesHang 42 M1).bind fun p2 =>
(f9_allOf 42 (zsi p2.2 39 1 (if p2.1 = 0 then (p2.2.1 39 1) else (0 : Int32)))).bind fun x3 =>
(f9_isHanging x3 (zsi p2.2 39 1 (if p2.1 = 0 then (p2.2.1 39 1) else (0 : Int32)))).bind fun x4 =>
if x4 = 0 then
f9_mends_57 zfuel (0 : Int32) (zsi p2.2 39 1 (if p2.1 = 0 then (p2.2.1 39 1) else (0 : Int32)))
else
some ((0 : Int32), (zsi p2.2 39 1 (if p2.1 = 0 then (p2.2.1 39 1) else (0 : Int32))))
set_option maxRecDepth 20000 in
def f9_endures_158 (k90 : Int32 → Int32 → Int32 → Int32 → zM → Option (Int32 × zM)) (v1 : Int32) (v2 : Int32) (v3 : Int32) (v5 : Int32) (s1 : Int32) (s2 : Int32) (M : zM) : Option (Int32 × zM) :=
(zpI M 4096 58 s1 s2).bind fun M1 =>
k90 v1 v2 v3 (v5 + (1 : Int32)) M1
set_option maxRecDepth 20000 in
def f9_endures_152 (k90 : Int32 → Int32 → Int32 → Int32 → zM → Option (Int32 × zM)) (v1 : Int32) (v2 : Int32) (v3 : Int32) (v5 : Int32) (s1 : Int32) (M : zM) : Option (Int32 × zM) :=
(zaI M 4096 58 v3).bind fun x1 =>
f9_endures_158 k90 v1 v2 v3 v5 s1 x1 M
set_option maxRecDepth 20000 in
def f9_endures_90 (k165 : Int32 → Int32 → Int32 → zM → Option (Int32 × zM)) : Nat → Int32 → Int32 → Int32 → Int32 → zM → Option (Int32 × zM)
  | 0, _, _, _, _, _ => none
  | n + 1, v1, v2, v3, v5, M => if (12 : Int32) ≤ v5 then
k165 v1 v2 v3 M
else
(f9_has v3 v5).bind fun x1 =>
if x1 = 0 then
f9_endures_152 (f9_endures_90 k165 n) v1 v2 v3 v5 v3 M
else
(zaI M 4096 56 (v3 &&& ((zshl (1 : Int32) v5) ^^^ (-1 : Int32)))).bind fun x2 =>
if x2 = 0 then
f9_endures_152 (f9_endures_90 k165 n) v1 v2 v3 v5 v3 M
else
(zaI M 4096 58 v3).bind fun x3 =>
(zaI M 4096 58 (v3 &&& ((zshl (1 : Int32) v5) ^^^ (-1 : Int32)))).bind fun x4 =>
f9_endures_158 (f9_endures_90 k165 n) v1 v2 v3 v5 v3 (zmax x3 (x4 + (1 : Int32))) M
set_option maxRecDepth 20000 in
def f9_endures_165 (k21 : Int32 → Int32 → Int32 → zM → Option (Int32 × zM)) (v1 : Int32) (v2 : Int32) (v3 : Int32) (M : zM) : Option (Int32 × zM) :=
k21 v1 v2 (v3 + (1 : Int32)) M
set_option maxRecDepth 20000 in
def f9_endures_79 (k21 : Int32 → Int32 → Int32 → zM → Option (Int32 × zM)) (v1 : Int32) (v3 : Int32) (s0 : Int32) (M : zM) : Option (Int32 × zM) :=
(zpI M 4096 58 v3 (0 : Int32)).bind fun M1 =>
f9_endures_90 (f9_endures_165 k21) zfuel v1 s0 v3 (0 : Int32) M1
set_option maxRecDepth 20000 in
def f9_endures_78 (k21 : Int32 → Int32 → Int32 → zM → Option (Int32 × zM)) (v1 : Int32) (v2 : Int32) (v3 : Int32) (M : zM) : Option (Int32 × zM) :=
f9_endures_79 k21 v1 v3 v2 M
set_option maxRecDepth 20000 in
def f9_endures_52 (k21 : Int32 → Int32 → Int32 → zM → Option (Int32 × zM)) (v1 : Int32) (v2 : Int32) (v3 : Int32) (s0 : Int32) (M : zM) : Option (Int32 × zM) :=
if s0 = 0 then
f9_endures_78 k21 v1 v2 v3 M
else
if v2 < 0 then
f9_endures_79 k21 v1 v3 v3 M
else
(fJ6_bitCount v3).bind fun x1 =>
(fJ6_bitCount v2).bind fun x2 =>
f9_endures_79 k21 v1 v3 (if x2 ≤ x1 then v2 else v3) M
set_option maxRecDepth 20000 in
def f9_endures_203 (v2 : Int32) (s1 : Int64) (M : zM) : Option (Int32 × zM) :=
(f9_enters s1 M).bind fun M1 =>
(fJ6_bitCount v2).bind fun x2 =>
some (x2, M1)
set_option maxRecDepth 20000 in
def f9_endures_21 : Nat → Int32 → Int32 → Int32 → zM → Option (Int32 × zM)
  | 0, _, _, _, _ => none
  | n + 1, v1, v2, v3, M => if v1 < v3 then
(f9_enters (Int32.toInt64 v2) (zsi M 39 1 (0 : Int32))).bind fun M1 =>
(zaI M1 4096 56 v1).bind fun x2 =>
if x2 = 0 then
f9_endures_203 v2 (0 : Int64) M1
else
(zaI M1 4096 58 v1).bind fun x3 =>
f9_endures_203 v2 (Int32.toInt64 x3) M1
else
if (v3 &&& (v1 ^^^ (-1 : Int32))) = 0 then
(zaI M 4096 56 (v1 &&& (v3 ^^^ (-1 : Int32)))).bind fun x1 =>
f9_endures_52 (f9_endures_21 n) v1 v2 v3 (if x1 = 0 then (1 : Int32) else (0 : Int32)) M
else
f9_endures_52 (f9_endures_21 n) v1 v2 v3 (0 : Int32) M
set_option maxRecDepth 20000 in
def f9_endures (M : zM) : Option (Int32 × zM) :=
(f9_laysHangs (zsi M 39 0 (0 : Int32))).bind fun M1 =>
(f9_allOf 41 M1).bind fun x2 =>
f9_endures_21 zfuel x2 (-1 : Int32) (0 : Int32) M1
set_option maxRecDepth 20000 in
def f9_differs_110 (k190 : Int32 → Int32 → Int32 → Int32 → Int32 → Int32 → zM → Option (Int32 × zM)) : Nat → Int32 → Int32 → Int32 → Int32 → Int32 → Int32 → Int32 → zM → Option (Int32 × zM)
  | 0, _, _, _, _, _, _, _, _ => none
  | n + 1, v2, v3, v4, v5, v6, v7, v8, M => if (M.1 41 7) ≤ v8 then
k190 v2 v3 v4 v5 v6 v7 M
else
(zaI M 9 44 v7).bind fun x1 =>
(f9_has x1 v8).bind fun x2 =>
(zmod (v7 + v4) (M.1 41 6)).bind fun x3 =>
(zaI M 9 41 x3).bind fun x4 =>
(zmod (v8 + v5) (M.1 41 7)).bind fun x5 =>
(f9_has x4 x5).bind fun x6 =>
(f9_flag (if x2 = x6 then (0 : Int32) else (1 : Int32))).bind fun x7 =>
f9_differs_110 k190 n v2 v3 v4 v5 (v6 + x7) v7 (v8 + (1 : Int32)) M
set_option maxRecDepth 20000 in
def f9_differs_190 (k95 : Int32 → Int32 → Int32 → Int32 → Int32 → Int32 → zM → Option (Int32 × zM)) (v2 : Int32) (v3 : Int32) (v4 : Int32) (v5 : Int32) (v6 : Int32) (v7 : Int32) (M : zM) : Option (Int32 × zM) :=
k95 v2 v3 v4 v5 v6 (v7 + (1 : Int32)) M
set_option maxRecDepth 20000 in
def f9_differs_95 (k196 : Int32 → Int32 → Int32 → Int32 → Int32 → zM → Option (Int32 × zM)) : Nat → Int32 → Int32 → Int32 → Int32 → Int32 → Int32 → zM → Option (Int32 × zM)
  | 0, _, _, _, _, _, _, _ => none
  | n + 1, v2, v3, v4, v5, v6, v7, M => if (M.1 41 6) ≤ v7 then
k196 v2 v3 v4 v5 v6 M
else
f9_differs_110 (f9_differs_190 (f9_differs_95 k196 n)) zfuel v2 v3 v4 v5 v6 v7 (0 : Int32) M
set_option maxRecDepth 20000 in
def f9_differs_246 (k77 : Int32 → Int32 → Int32 → Int32 → zM → Option (Int32 × zM)) (v2 : Int32) (v3 : Int32) (v4 : Int32) (v5 : Int32) (M : zM) : Option (Int32 × zM) :=
k77 v2 v3 v4 (v5 + (1 : Int32)) M
set_option maxRecDepth 20000 in
def f9_differs_196 (k77 : Int32 → Int32 → Int32 → Int32 → zM → Option (Int32 × zM)) (v2 : Int32) (v3 : Int32) (v4 : Int32) (v5 : Int32) (v6 : Int32) (M : zM) : Option (Int32 × zM) :=
if v3 ≤ v6 then
f9_differs_246 k77 (if (v4 + v5) = 0 then v6 else v2) v3 v4 v5 M
else
(f9_enters (Int32.toInt64 v6) (zsi M 39 1 (0 : Int32))).bind fun M1 =>
(f9_enters (Int32.toInt64 v4) M1).bind fun M2 =>
(f9_enters (Int32.toInt64 v5) M2).bind fun M3 =>
f9_differs_246 k77 (if (v4 + v5) = 0 then v6 else v2) v6 v4 v5 M3
set_option maxRecDepth 20000 in
def f9_differs_77 (k252 : Int32 → Int32 → Int32 → zM → Option (Int32 × zM)) : Nat → Int32 → Int32 → Int32 → Int32 → zM → Option (Int32 × zM)
  | 0, _, _, _, _, _ => none
  | n + 1, v2, v3, v4, v5, M => if (M.1 41 7) ≤ v5 then
k252 v2 v3 v4 M
else
f9_differs_95 (f9_differs_196 (f9_differs_77 k252 n)) zfuel v2 v3 v4 v5 (0 : Int32) (0 : Int32) M
set_option maxRecDepth 20000 in
def f9_differs_252 (k62 : Int32 → Int32 → Int32 → zM → Option (Int32 × zM)) (v2 : Int32) (v3 : Int32) (v4 : Int32) (M : zM) : Option (Int32 × zM) :=
k62 v2 v3 (v4 + (1 : Int32)) M
set_option maxRecDepth 20000 in
def f9_differs_62 : Nat → Int32 → Int32 → Int32 → zM → Option (Int32 × zM)
  | 0, _, _, _, _ => none
  | n + 1, v2, v3, v4, M => if (M.1 41 6) ≤ v4 then
some (v2, M)
else
f9_differs_77 (f9_differs_252 (f9_differs_62 n)) zfuel v2 v3 v4 (0 : Int32) M
set_option maxRecDepth 20000 in
def f9_differs (M : zM) : Option (Int32 × zM) :=
(f9_readsCloth (zsi M 39 0 (0 : Int32))).bind fun p1 =>
if 0 ≤ p1.1 then
if (p1.2.1 44 6) = (p1.2.1 41 6) then
if (p1.2.1 44 7) = (p1.2.1 41 7) then
f9_differs_62 zfuel (0 : Int32) (1000000 : Int32) (0 : Int32) p1.2
else
some ((-100 : Int32), p1.2)
else
some ((-100 : Int32), p1.2)
else
some (p1.1, p1.2)
set_option maxRecDepth 20000 in
def f9_turned_18 (k147 : Int32 → Int32 → Int32 → zM → Option Int32) : Nat → Int32 → Int32 → Int32 → Int32 → zM → Option Int32
  | 0, _, _, _, _, _ => none
  | n + 1, v1, v2, v3, v4, M => if (M.1 41 7) ≤ v4 then
k147 v1 v2 v3 M
else
(f9_has v1 (0 : Int32)).bind fun x1 =>
(f9_has v1 (1 : Int32)).bind fun x2 =>
(zaI M 9 41 v3).bind fun x3 =>
(f9_has x3 v4).bind fun x4 =>
(f9_has v1 (2 : Int32)).bind fun x5 =>
if x5 = 0 then
(zaI M 9 41 (if x1 = 0 then v3 else (((M.1 41 6) - (1 : Int32)) - v3))).bind fun x6 =>
(f9_has x6 (if x2 = 0 then v4 else (((M.1 41 7) - (1 : Int32)) - v4))).bind fun x7 =>
(f9_flag (if x4 = x7 then (0 : Int32) else (1 : Int32))).bind fun x8 =>
f9_turned_18 k147 n v1 (v2 + x8) v3 (v4 + (1 : Int32)) M
else
(zaI M 9 41 v4).bind fun x6 =>
(f9_has x6 v3).bind fun x7 =>
(f9_flag (if x4 = x7 then (0 : Int32) else (1 : Int32))).bind fun x8 =>
f9_turned_18 k147 n v1 (v2 + x8) v3 (v4 + (1 : Int32)) M
set_option maxRecDepth 20000 in
def f9_turned_147 (k4 : Int32 → Int32 → Int32 → zM → Option Int32) (v1 : Int32) (v2 : Int32) (v3 : Int32) (M : zM) : Option Int32 :=
k4 v1 v2 (v3 + (1 : Int32)) M
set_option maxRecDepth 20000 in
def f9_turned_4 : Nat → Int32 → Int32 → Int32 → zM → Option Int32
  | 0, _, _, _, _ => none
  | n + 1, v1, v2, v3, M => if (M.1 41 6) ≤ v3 then
some v2
else
f9_turned_18 (f9_turned_147 (f9_turned_4 n)) zfuel v1 v2 v3 (0 : Int32) M
set_option maxRecDepth 20000 in
def f9_turned (v1 : Int32) (M : zM) : Option Int32 :=
f9_turned_4 zfuel v1 (0 : Int32) (0 : Int32) M
