/-! the same functions where each row has its array from the beginning (the virtual store): bytes are read and written below the size only, the size is set to 0 or not above itself -/
def zib (S : zS) (a : Nat) (i : Int32) : Option Int32 := if i < S.2.1 (a - 1) 1 then zil S a i else none
def zibs (S : zS) (a : Nat) (i v : Int32) : Option zS := if i < S.2.1 (a - 1) 1 then zis S a i v else none
def zpz (S : zS) (a : Nat) (v : Int32) : Option zS := if v = 0 ∨ (¬ v < 0 ∧ v ≤ S.2.1 a 1) then zpi S a 5 1 v else none
def fX0_chooseMove_95 (N : Nat) (S : zS) (x0 : Nat) (x1 : Int32) (x2 : Int32) (x7 : Int32) : Option (zS) :=
  zlet ((((x1 * (200 : Int32)) + x2) &&& (15 : Int32)) * (2 : Int32)) fun v1 =>
  (zgr S x0 0 3).bind fun v2 =>
  (zgr S x0 0 3).bind fun v3 =>
  (zil S v3 (((x1 * (200 : Int32)) + x2) >>> ((4 : Int32) &&& 31))).bind fun v4 =>
  (zis S v2 (((x1 * (200 : Int32)) + x2) >>> ((4 : Int32) &&& 31)) ((v4 &&& (((3 : Int32) <<< (v1 &&& 31)) ^^^ (-1 : Int32))) ||| (x7 <<< (v1 &&& 31)))).bind fun S5 =>
  some S5
def fX0_chooseMove_93 (N : Nat) (S : zS) (x0 : Nat) (x1 : Int32) (x2 : Int32) (y0 : Int32) : Option (zS) :=
  fX0_chooseMove_95 N S x0 x1 x2 y0
def fX0_chooseMove_0 (N : Nat) (S : zS) (x0 : Nat) (x1 : Int32) (x2 : Int32) (x3 : Int32) : Option (zS) :=
  (zgr S x0 0 5).bind fun v6 =>
  (zil S v6 (x2 + (1 : Int32))).bind fun v7 =>
  (zgr S x0 0 5).bind fun v8 =>
  (zil S v8 x2).bind fun v9 =>
  (zgr S x0 0 4).bind fun v10 =>
  (zil S v10 (x2 + (1 : Int32))).bind fun v11 =>
  if x3 = (0 : Int32) then
    zlet (zmn v7 (zmn v9 v11)) fun v12 =>
    (zgr S x0 0 4).bind fun v13 =>
    (zis S v13 x2 (v12 + (1 : Int32))).bind fun S14 =>
    if v7 = v12 then
      fX0_chooseMove_93 N S14 x0 x1 x2 (0 : Int32)
    else
      if v9 = v12 then
        fX0_chooseMove_93 N S14 x0 x1 x2 (1 : Int32)
      else
        fX0_chooseMove_93 N S14 x0 x1 x2 (2 : Int32)
  else
    (zgr S x0 0 4).bind fun v15 =>
    (zis S v15 x2 v7).bind fun S16 =>
    fX0_chooseMove_95 N S16 x0 x1 x2 (3 : Int32)
def fX0_chooseMove (N : Nat) (S : zS) (x0 : Nat) (x1 : Int32) (x2 : Int32) (x3 : Int32) : Option (zS) := fX0_chooseMove_0 N S x0 x1 x2 x3
def fX0_chooseMoves_123 (N : Nat) (K40 : zS × Nat × Nat × Nat × Int32 × Int32 → Option (zS)) (K90 : zS × Nat × Nat × Nat × Int32 × Int32 × Int32 → Option (zS)) (S : zS) (x0 : Nat) (x1 : Nat) (x2 : Nat) (x3 : Int32) (x4 : Int32) (x6 : Int32) (y0 : Nat) (y1 : Int32) (y2 : Int32) (y3 : Int32) : Option (zS) :=
  (zrc S y0 0).bind fun u1 =>
  (fX0_chooseMove N S y0 y1 y2 y3).bind fun S2 =>
  K90 (S2, x0, x1, x2, x3, x4, (x6 + (-1 : Int32)))
def fX0_chooseMoves_90 (N : Nat) (K40 : zS × Nat × Nat × Nat × Int32 × Int32 → Option (zS)) (K90 : zS × Nat × Nat × Nat × Int32 × Int32 × Int32 → Option (zS)) (S : zS) (x0 : Nat) (x1 : Nat) (x2 : Nat) (x3 : Int32) (x4 : Int32) (x6 : Int32) : Option (zS) :=
  if x6 < x3 then
    K40 (S, x0, x1, x2, x3, (x4 + (-1 : Int32)))
  else
    (zgr S x1 5 0).bind fun v3 =>
    (zib S v3 x4).bind fun v4 =>
    (zgr S x2 5 0).bind fun v5 =>
    (zib S v5 x6).bind fun v6 =>
    if v4 = v6 then
      fX0_chooseMoves_123 N K40 K90 S x0 x1 x2 x3 x4 x6 x0 x4 x6 (1 : Int32)
    else
      fX0_chooseMoves_123 N K40 K90 S x0 x1 x2 x3 x4 x6 x0 x4 x6 (0 : Int32)
def lX0_chooseMoves_90 (N : Nat) (K40 : zS × Nat × Nat × Nat × Int32 × Int32 → Option (zS)) (S : zS) (x0 : Nat) (x1 : Nat) (x2 : Nat) (x3 : Int32) (x4 : Int32) (x6 : Int32) : Option (zS) := zloop (fun K y => fX0_chooseMoves_90 N K40 K y.1 y.2.1 y.2.2.1 y.2.2.2.1 y.2.2.2.2.1 y.2.2.2.2.2.1 y.2.2.2.2.2.2) N (S, x0, x1, x2, x3, x4, x6)
def fX0_chooseMoves_40 (N : Nat) (K40 : zS × Nat × Nat × Nat × Int32 × Int32 → Option (zS)) (S : zS) (x0 : Nat) (x1 : Nat) (x2 : Nat) (x3 : Int32) (x4 : Int32) : Option (zS) :=
  if x4 < x3 then
    some S
  else
    (zgr S x0 0 4).bind fun v7 =>
    (zgr S x0 0 5).bind fun v8 =>
    (zpr S x0 0 4 v8).bind fun S9 =>
    (zpr S9 x0 0 5 v7).bind fun S10 =>
    (zgr S10 x0 0 4).bind fun v11 =>
    (zgi S10 x2 5 1).bind fun v12 =>
    (zgi S10 x1 5 1).bind fun v13 =>
    (zis S10 v11 v12 (v13 - x4)).bind fun S14 =>
    (zgi S14 x2 5 1).bind fun v15 =>
    lX0_chooseMoves_90 N K40 S14 x0 x1 x2 x3 x4 (v15 - (1 : Int32))
def lX0_chooseMoves_40 (N : Nat)  (S : zS) (x0 : Nat) (x1 : Nat) (x2 : Nat) (x3 : Int32) (x4 : Int32) : Option (zS) := zloop (fun K y => fX0_chooseMoves_40 N K y.1 y.2.1 y.2.2.1 y.2.2.2.1 y.2.2.2.2.1 y.2.2.2.2.2) N (S, x0, x1, x2, x3, x4)
def fX0_chooseMoves_3 (N : Nat) (K3 : zS × Nat × Nat × Nat × Int32 × Int32 → Option (zS)) (S : zS) (x0 : Nat) (x1 : Nat) (x2 : Nat) (x3 : Int32) (x4 : Int32) : Option (zS) :=
  (zgi S x2 5 1).bind fun v16 =>
  if v16 < x4 then
    (zgi S x1 5 1).bind fun v17 =>
    lX0_chooseMoves_40 N S x0 x1 x2 x3 (v17 - (1 : Int32))
  else
    (zgr S x0 0 4).bind fun v18 =>
    (zgi S x2 5 1).bind fun v19 =>
    (zis S v18 x4 (v19 - x4)).bind fun S20 =>
    K3 (S20, x0, x1, x2, x3, (x4 + (1 : Int32)))
def lX0_chooseMoves_3 (N : Nat)  (S : zS) (x0 : Nat) (x1 : Nat) (x2 : Nat) (x3 : Int32) (x4 : Int32) : Option (zS) := zloop (fun K y => fX0_chooseMoves_3 N K y.1 y.2.1 y.2.2.1 y.2.2.2.1 y.2.2.2.2.1 y.2.2.2.2.2) N (S, x0, x1, x2, x3, x4)
def fX0_chooseMoves_0 (N : Nat) (S : zS) (x0 : Nat) (x1 : Nat) (x2 : Nat) (x3 : Int32) : Option (zS) :=
  lX0_chooseMoves_3 N S x0 x1 x2 x3 x3
def fX0_chooseMoves (N : Nat) (S : zS) (x0 : Nat) (x1 : Nat) (x2 : Nat) (x3 : Int32) : Option (zS) := fX0_chooseMoves_0 N S x0 x1 x2 x3
def fX0_moveAt_0 (N : Nat) (S : zS) (x0 : Nat) (x1 : Nat) (x2 : Nat) (x3 : Int32) (x4 : Int32) : Option (Int32 × zS) :=
  (zgi S x1 5 1).bind fun v1 =>
  if x3 < v1 then
    (zgi S x2 5 1).bind fun v2 =>
    if x4 < v2 then
      (zgr S x0 0 3).bind fun v3 =>
      (zil S v3 (((x3 * (200 : Int32)) + x4) >>> ((4 : Int32) &&& 31))).bind fun v4 =>
      some (((zush v4 ((((x3 * (200 : Int32)) + x4) &&& (15 : Int32)) * (2 : Int32))) &&& (3 : Int32)), S)
    else
      some ((1 : Int32), S)
  else
    some ((2 : Int32), S)
def fX0_moveAt (N : Nat) (S : zS) (x0 : Nat) (x1 : Nat) (x2 : Nat) (x3 : Int32) (x4 : Int32) : Option (Int32 × zS) := fX0_moveAt_0 N S x0 x1 x2 x3 x4
def fX0_note_50 (N : Nat) (S : zS) : Option (zS) :=
  some S
def fX0_note_0 (N : Nat) (S : zS) (x0 : Nat) (x1 : Int32) (x2 : Int32) (x3 : Int32) : Option (zS) :=
  (zgi S x0 0 6).bind fun v1 =>
  if (200 : Int32) ≤ v1 then
    fX0_note_50 N S
  else
    (zgr S x0 0 0).bind fun v2 =>
    (zgi S x0 0 6).bind fun v3 =>
    (zis S v2 v3 x1).bind fun S4 =>
    (zgr S4 x0 0 1).bind fun v5 =>
    (zgi S4 x0 0 6).bind fun v6 =>
    (zis S4 v5 v6 x2).bind fun S7 =>
    (zgr S7 x0 0 2).bind fun v8 =>
    (zgi S7 x0 0 6).bind fun v9 =>
    (zis S7 v8 v9 x3).bind fun S10 =>
    (zgi S10 x0 0 6).bind fun v11 =>
    (zpi S10 x0 0 6 (v11 + (1 : Int32))).bind fun S12 =>
    fX0_note_50 N S12
def fX0_note (N : Nat) (S : zS) (x0 : Nat) (x1 : Int32) (x2 : Int32) (x3 : Int32) : Option (zS) := fX0_note_0 N S x0 x1 x2 x3
def fX0_follow_121 (N : Nat) (S : zS) : Option (zS) :=
  some S
def fX0_follow_112 (N : Nat) (K14 : zS × Nat × Nat × Nat × Int32 × Int32 × Int32 → Option (zS)) (S : zS) (x0 : Nat) (x1 : Nat) (x2 : Nat) (x4 : Int32) (x6 : Int32) (y0 : Int32) (y1 : Int32) : Option (zS) :=
  K14 (S, x0, x1, x2, x4, (y0 + y1), (x6 + (1 : Int32)))
def fX0_follow_96 (N : Nat) (K14 : zS × Nat × Nat × Nat × Int32 × Int32 × Int32 → Option (zS)) (S : zS) (x0 : Nat) (x1 : Nat) (x2 : Nat) (x5 : Int32) (x6 : Int32) (x7 : Int32) (y0 : Int32) (y1 : Int32) : Option (zS) :=
  if x7 = (1 : Int32) then
    fX0_follow_112 N K14 S x0 x1 x2 (y0 + y1) x6 x5 (0 : Int32)
  else
    fX0_follow_112 N K14 S x0 x1 x2 (y0 + y1) x6 x5 (1 : Int32)
def fX0_follow_83 (N : Nat) (K14 : zS × Nat × Nat × Nat × Int32 × Int32 × Int32 → Option (zS)) (S : zS) (x0 : Nat) (x1 : Nat) (x2 : Nat) (x4 : Int32) (x5 : Int32) (x6 : Int32) (x7 : Int32) : Option (zS) :=
  if x7 = (2 : Int32) then
    fX0_follow_96 N K14 S x0 x1 x2 x5 x6 x7 x4 (0 : Int32)
  else
    fX0_follow_96 N K14 S x0 x1 x2 x5 x6 x7 x4 (1 : Int32)
def fX0_follow_80 (N : Nat) (K14 : zS × Nat × Nat × Nat × Int32 × Int32 × Int32 → Option (zS)) (S : zS) (x0 : Nat) (x1 : Nat) (x2 : Nat) (x4 : Int32) (x5 : Int32) (x6 : Int32) (x7 : Int32) (y0 : Nat) (y1 : Int32) (y2 : Int32) (y3 : Int32) : Option (zS) :=
  (zrc S y0 0).bind fun u1 =>
  (fX0_note N S y0 y1 y2 y3).bind fun S2 =>
  fX0_follow_83 N K14 S2 x0 x1 x2 x4 x5 x6 x7
def fX0_follow_40 (N : Nat) (K14 : zS × Nat × Nat × Nat × Int32 × Int32 × Int32 → Option (zS)) (S : zS) (x0 : Nat) (x1 : Nat) (x2 : Nat) (x4 : Int32) (x5 : Int32) (x6 : Int32) : Option (zS) :=
  (zrc S x0 0).bind fun u3 =>
  zb2 (fX0_moveAt N S x0 x1 x2 x4 x5) fun v5 S4 =>
  if v5 = (3 : Int32) then
    fX0_follow_83 N K14 S4 x0 x1 x2 x4 x5 x6 v5
  else
    if v5 = (1 : Int32) then
      fX0_follow_80 N K14 S4 x0 x1 x2 x4 x5 x6 v5 x0 v5 x4 (0 : Int32)
    else
      (zgr S4 x2 5 0).bind fun v6 =>
      (zib S4 v6 x5).bind fun v7 =>
      fX0_follow_80 N K14 S4 x0 x1 x2 x4 x5 x6 v5 x0 v5 x4 v7
def fX0_follow_14 (N : Nat) (K14 : zS × Nat × Nat × Nat × Int32 × Int32 × Int32 → Option (zS)) (S : zS) (x0 : Nat) (x1 : Nat) (x2 : Nat) (x4 : Int32) (x5 : Int32) (x6 : Int32) : Option (zS) :=
  if (400 : Int32) ≤ x6 then
    fX0_follow_121 N S
  else
    (zgi S x1 5 1).bind fun v8 =>
    if x4 < v8 then
      fX0_follow_40 N K14 S x0 x1 x2 x4 x5 x6
    else
      (zgi S x2 5 1).bind fun v9 =>
      if v9 ≤ x5 then
        fX0_follow_121 N S
      else
        fX0_follow_40 N K14 S x0 x1 x2 x4 x5 x6
def lX0_follow_14 (N : Nat)  (S : zS) (x0 : Nat) (x1 : Nat) (x2 : Nat) (x4 : Int32) (x5 : Int32) (x6 : Int32) : Option (zS) := zloop (fun K y => fX0_follow_14 N K y.1 y.2.1 y.2.2.1 y.2.2.2.1 y.2.2.2.2.1 y.2.2.2.2.2.1 y.2.2.2.2.2.2) N (S, x0, x1, x2, x4, x5, x6)
def fX0_follow_0 (N : Nat) (S : zS) (x0 : Nat) (x1 : Nat) (x2 : Nat) (x3 : Int32) : Option (zS) :=
  (zpi S x0 0 6 (0 : Int32)).bind fun S10 =>
  lX0_follow_14 N S10 x0 x1 x2 x3 x3 (0 : Int32)
def fX0_follow (N : Nat) (S : zS) (x0 : Nat) (x1 : Nat) (x2 : Nat) (x3 : Int32) : Option (zS) := fX0_follow_0 N S x0 x1 x2 x3
def fX0_likeAhead_14 (N : Nat) (K14 : zS × Nat × Nat × Int32 × Int32 → Option (Int32 × zS)) (S : zS) (x0 : Nat) (x1 : Nat) (x2 : Int32) (x3 : Int32) : Option (Int32 × zS) :=
  if x2 ≤ x3 then
    some (x2, S)
  else
    (zgr S x0 5 0).bind fun v1 =>
    (zib S v1 x3).bind fun v2 =>
    (zgr S x1 5 0).bind fun v3 =>
    (zib S v3 x3).bind fun v4 =>
    if v2 = v4 then
      K14 (S, x0, x1, x2, (x3 + (1 : Int32)))
    else
      some (x3, S)
def lX0_likeAhead_14 (N : Nat)  (S : zS) (x0 : Nat) (x1 : Nat) (x2 : Int32) (x3 : Int32) : Option (Int32 × zS) := zloop (fun K y => fX0_likeAhead_14 N K y.1 y.2.1 y.2.2.1 y.2.2.2.1 y.2.2.2.2) N (S, x0, x1, x2, x3)
def fX0_likeAhead_0 (N : Nat) (S : zS) (x0 : Nat) (x1 : Nat) : Option (Int32 × zS) :=
  (zgi S x0 5 1).bind fun v5 =>
  (zgi S x1 5 1).bind fun v6 =>
  lX0_likeAhead_14 N S x0 x1 (zmn v5 v6) (0 : Int32)
def fX0_likeAhead (N : Nat) (S : zS) (x0 : Nat) (x1 : Nat) : Option (Int32 × zS) := fX0_likeAhead_0 N S x0 x1
def fX0_lay_0 (N : Nat) (S : zS) (x0 : Nat) (x1 : Nat) (x2 : Nat) : Option (zS) :=
  zb2 (fX0_likeAhead N S x1 x2) fun v2 S1 =>
  (zrc S1 x0 0).bind fun u3 =>
  (fX0_chooseMoves N S1 x0 x1 x2 v2).bind fun S4 =>
  (zrc S4 x0 0).bind fun u5 =>
  (fX0_follow N S4 x0 x1 x2 v2).bind fun S6 =>
  some S6
def fX0_lay (N : Nat) (S : zS) (x0 : Nat) (x1 : Nat) (x2 : Nat) : Option (zS) := fX0_lay_0 N S x0 x1 x2
def fX1_open_0 (N : Nat) (S : zS) (x0 : Nat) (x1 : Nat) : Option (zS) :=
  (zgr S x0 1 2).bind fun v1 =>
  (zcp S x1 (0 : Int32) v1 (0 : Int32) (8 : Int32)).bind fun S2 =>
  (zpi S2 x0 1 6 (-1 : Int32)).bind fun S3 =>
  some S3
def fX1_open (N : Nat) (S : zS) (x0 : Nat) (x1 : Nat) : Option (zS) := fX1_open_0 N S x0 x1
def fX4_input_0 (N : Nat) (S : zS) (x0 : Nat) (x1 : Int32) (x2 : Int32) : Option (Int32 × zS) :=
  (zgr S x0 4 3).bind fun v1 =>
  (zil S v1 ((x1 * (4 : Int32)) + x2)).bind fun v2 =>
  some (v2, S)
def fX4_input (N : Nat) (S : zS) (x0 : Nat) (x1 : Int32) (x2 : Int32) : Option (Int32 × zS) := fX4_input_0 N S x0 x1 x2
def fX1_hasGoodInputs_85 (N : Nat) (S : zS) (y0 : Int32) : Option (Int32 × zS) :=
  some (y0 &&& 1, S)
def fX1_hasGoodInputs_62 (N : Nat) (K2 : zS × Nat × Int32 × Int32 → Option (Int32 × zS)) (S : zS) (x0 : Nat) (x1 : Int32) (x2 : Int32) : Option (Int32 × zS) :=
  K2 (S, x0, x1, (x2 + (1 : Int32)))
def fX1_hasGoodInputs_60 (N : Nat) (S : zS) : Option (Int32 × zS) :=
  some ((0 : Int32) &&& 1, S)
def fX1_hasGoodInputs_2 (N : Nat) (K2 : zS × Nat × Int32 × Int32 → Option (Int32 × zS)) (S : zS) (x0 : Nat) (x1 : Int32) (x2 : Int32) : Option (Int32 × zS) :=
  (zgr S x0 1 0).bind fun v1 =>
  (zgr S v1 4 4).bind fun v2 =>
  (zil S v2 x1).bind fun v3 =>
  if v3 ≤ x2 then
    (zgr S x0 1 0).bind fun v4 =>
    (zgr S v4 4 4).bind fun v5 =>
    (zil S v5 x1).bind fun v6 =>
    if v6 ≤ (0 : Int32) then
      fX1_hasGoodInputs_85 N S (0 : Int32)
    else
      fX1_hasGoodInputs_85 N S (1 : Int32)
  else
    (zgr S x0 1 0).bind fun v7 =>
    (zrc S v7 4).bind fun u8 =>
    zb2 (fX4_input N S v7 x1 x2) fun v10 S9 =>
    if (100 : Int32) ≤ v10 then
      (zgr S9 x0 1 4).bind fun v11 =>
      (zzl S9 v11 (v10 - (100 : Int32))).bind fun v12 =>
      if v12 = (0 : Int32) then
        fX1_hasGoodInputs_62 N K2 S9 x0 x1 x2
      else
        fX1_hasGoodInputs_60 N S9
    else
      (zgr S9 x0 1 1).bind fun v13 =>
      (zgi S9 v13 6 3).bind fun v14 =>
      if ((zush v14 v10) &&& (1 : Int32)) = (0 : Int32) then
        fX1_hasGoodInputs_62 N K2 S9 x0 x1 x2
      else
        fX1_hasGoodInputs_60 N S9
def lX1_hasGoodInputs_2 (N : Nat)  (S : zS) (x0 : Nat) (x1 : Int32) (x2 : Int32) : Option (Int32 × zS) := zloop (fun K y => fX1_hasGoodInputs_2 N K y.1 y.2.1 y.2.2.1 y.2.2.2) N (S, x0, x1, x2)
def fX1_hasGoodInputs_0 (N : Nat) (S : zS) (x0 : Nat) (x1 : Int32) : Option (Int32 × zS) :=
  lX1_hasGoodInputs_2 N S x0 x1 (0 : Int32)
def fX1_hasGoodInputs (N : Nat) (S : zS) (x0 : Nat) (x1 : Int32) : Option (Int32 × zS) := fX1_hasGoodInputs_0 N S x0 x1
def fX1_inputRow_37 (N : Nat) (S : zS) (y0 : Nat) : Option (Nat × zS) :=
  some (y0, S)
def fX1_inputRow_0 (N : Nat) (S : zS) (x0 : Nat) (x1 : Int32) (x2 : Int32) : Option (Nat × zS) :=
  (zgr S x0 1 0).bind fun v1 =>
  (zrc S v1 4).bind fun u2 =>
  zb2 (fX4_input N S v1 x1 x2) fun v4 S3 =>
  if (100 : Int32) ≤ v4 then
    (zgr S3 x0 1 3).bind fun v5 =>
    (zal S3 v5 12 (v4 - (100 : Int32))).bind fun v6 =>
    fX1_inputRow_37 N S3 v6
  else
    (zgr S3 x0 1 1).bind fun v7 =>
    (zgr S3 v7 6 1).bind fun v8 =>
    (zal S3 v8 12 v4).bind fun v9 =>
    fX1_inputRow_37 N S3 v9
def fX1_inputRow (N : Nat) (S : zS) (x0 : Nat) (x1 : Int32) (x2 : Int32) : Option (Nat × zS) := fX1_inputRow_0 N S x0 x1 x2
def fX5_append_0 (N : Nat) (S : zS) (x0 : Nat) (x1 : Nat) : Option (Int32 × zS) :=
  (zgi S x0 5 1).bind fun v1 =>
  (zgi S x1 5 1).bind fun v2 =>
  (zgr S x0 5 0).bind fun v3 =>
  (zln S v3 9).bind fun v4 =>
  if (v1 + v2) ≤ v4 then
    (zgr S x1 5 0).bind fun v5 =>
    (zgr S x0 5 0).bind fun v6 =>
    (zgi S x0 5 1).bind fun v7 =>
    (zgi S x1 5 1).bind fun v8 =>
    (zcp S v5 (0 : Int32) v6 v7 v8).bind fun S9 =>
    (zgi S9 x0 5 1).bind fun v10 =>
    (zgi S9 x1 5 1).bind fun v11 =>
    (zpi S9 x0 5 1 (v10 + v11)).bind fun S12 =>
    some ((1 : Int32) &&& 1, S12)
  else
    some ((0 : Int32) &&& 1, S)
def fX5_append (N : Nat) (S : zS) (x0 : Nat) (x1 : Nat) : Option (Int32 × zS) := fX5_append_0 N S x0 x1
def fX1_join_40 (N : Nat) (K14 : zS × Nat × Int32 × Nat × Int32 × Int32 × Int32 → Option (Int32 × zS)) (S : zS) (x0 : Nat) (x1 : Int32) (x2 : Nat) (x3 : Int32) (x4 : Int32) (x5 : Int32) (y0 : Nat) (y1 : Nat) (y2 : Int32) (y3 : Int32) : Option (Int32 × zS) :=
  (zrc S y1 1).bind fun u1 =>
  zb2 (fX1_inputRow N S y1 y2 y3) fun v3 S2 =>
  (zrc S2 y0 5).bind fun u4 =>
  zb2 (fX5_append N S2 y0 v3) fun v7 S5 =>
  if v7 = (0 : Int32) then
    some ((0 : Int32) &&& 1, S5)
  else
    K14 (S5, x0, x1, x2, x3, x4, (x5 + (1 : Int32)))
def fX1_join_14 (N : Nat) (K14 : zS × Nat × Int32 × Nat × Int32 × Int32 × Int32 → Option (Int32 × zS)) (S : zS) (x0 : Nat) (x1 : Int32) (x2 : Nat) (x3 : Int32) (x4 : Int32) (x5 : Int32) : Option (Int32 × zS) :=
  if x4 ≤ x5 then
    some ((1 : Int32) &&& 1, S)
  else
    if x3 = (0 : Int32) then
      fX1_join_40 N K14 S x0 x1 x2 x3 x4 x5 x2 x0 x1 x5
    else
      fX1_join_40 N K14 S x0 x1 x2 x3 x4 x5 x2 x0 x1 ((x4 - (1 : Int32)) - x5)
def lX1_join_14 (N : Nat)  (S : zS) (x0 : Nat) (x1 : Int32) (x2 : Nat) (x3 : Int32) (x4 : Int32) (x5 : Int32) : Option (Int32 × zS) := zloop (fun K y => fX1_join_14 N K y.1 y.2.1 y.2.2.1 y.2.2.2.1 y.2.2.2.2.1 y.2.2.2.2.2.1 y.2.2.2.2.2.2) N (S, x0, x1, x2, x3, x4, x5)
def fX1_join_0 (N : Nat) (S : zS) (x0 : Nat) (x1 : Int32) (x2 : Nat) (x3 : Int32) : Option (Int32 × zS) :=
  (zgr S x0 1 0).bind fun v8 =>
  (zgr S v8 4 4).bind fun v9 =>
  (zil S v9 x1).bind fun v10 =>
  lX1_join_14 N S x0 x1 x2 x3 v10 (0 : Int32)
def fX1_join (N : Nat) (S : zS) (x0 : Nat) (x1 : Int32) (x2 : Nat) (x3 : Int32) : Option (Int32 × zS) := fX1_join_0 N S x0 x1 x2 x3
def fX1_mask_2 (N : Nat) (K2 : zS × Nat × Int32 × Int32 → Option (zS)) (S : zS) (x0 : Nat) (x1 : Int32) (x2 : Int32) : Option (zS) :=
  (zgi S x0 5 1).bind fun v1 =>
  if v1 ≤ x2 then
    some S
  else
    (zgr S x0 5 0).bind fun v2 =>
    (zib S v2 x2).bind fun v3 =>
    (zibs S v2 x2 (v3 ^^^ x1)).bind fun S4 =>
    K2 (S4, x0, x1, (x2 + (1 : Int32)))
def lX1_mask_2 (N : Nat)  (S : zS) (x0 : Nat) (x1 : Int32) (x2 : Int32) : Option (zS) := zloop (fun K y => fX1_mask_2 N K y.1 y.2.1 y.2.2.1 y.2.2.2) N (S, x0, x1, x2)
def fX1_mask_0 (N : Nat) (S : zS) (x0 : Nat) (x1 : Int32) : Option (zS) :=
  lX1_mask_2 N S x0 x1 (0 : Int32)
def fX1_mask (N : Nat) (S : zS) (x0 : Nat) (x1 : Int32) : Option (zS) := fX1_mask_0 N S x0 x1
def fX5_put_0 (N : Nat) (S : zS) (x0 : Nat) (x1 : Int32) : Option (Int32 × zS) :=
  (zgi S x0 5 1).bind fun v1 =>
  (zgr S x0 5 0).bind fun v2 =>
  (zln S v2 9).bind fun v3 =>
  if v1 < v3 then
    (zgr S x0 5 0).bind fun v4 =>
    (zgi S x0 5 1).bind fun v5 =>
    (zis S v4 v5 x1).bind fun S6 =>
    (zgi S6 x0 5 1).bind fun v7 =>
    (zpi S6 x0 5 1 (v7 + (1 : Int32))).bind fun S8 =>
    some ((1 : Int32) &&& 1, S8)
  else
    some ((0 : Int32) &&& 1, S)
def fX5_put (N : Nat) (S : zS) (x0 : Nat) (x1 : Int32) : Option (Int32 × zS) := fX5_put_0 N S x0 x1
def fX1_sign_39 (N : Nat) (K39 : zS × Nat × Int32 × Int32 → Option (zS)) (S : zS) (x0 : Nat) (x1 : Int32) (x2 : Int32) : Option (zS) :=
  if x2 < (0 : Int32) then
    some S
  else
    (zrc S x0 5).bind fun u1 =>
    zb2 (fX5_put N S x0 ((zush x1 x2) &&& (255 : Int32))) fun v4 S2 =>
    K39 (S2, x0, x1, (x2 + (-8 : Int32)))
def lX1_sign_39 (N : Nat)  (S : zS) (x0 : Nat) (x1 : Int32) (x2 : Int32) : Option (zS) := zloop (fun K y => fX1_sign_39 N K y.1 y.2.1 y.2.2.1 y.2.2.2) N (S, x0, x1, x2)
def fX1_sign_5 (N : Nat) (K5 : zS × Nat × Int32 × Int32 → Option (zS)) (S : zS) (x0 : Nat) (x1 : Int32) (x2 : Int32) : Option (zS) :=
  (zgi S x0 5 1).bind fun v5 =>
  if v5 ≤ x2 then
    (zpz S x0 (0 : Int32)).bind fun S6 =>
    lX1_sign_39 N S6 x0 x1 (24 : Int32)
  else
    (zgr S x0 5 0).bind fun v7 =>
    (zib S v7 x2).bind fun v8 =>
    K5 (S, x0, ((x1 ^^^ v8) * (16777619 : Int32)), (x2 + (1 : Int32)))
def lX1_sign_5 (N : Nat)  (S : zS) (x0 : Nat) (x1 : Int32) (x2 : Int32) : Option (zS) := zloop (fun K y => fX1_sign_5 N K y.1 y.2.1 y.2.2.1 y.2.2.2) N (S, x0, x1, x2)
def fX1_sign_0 (N : Nat) (S : zS) (x0 : Nat) : Option (zS) :=
  lX1_sign_5 N S x0 (40503 : Int32) (0 : Int32)
def fX1_sign (N : Nat) (S : zS) (x0 : Nat) : Option (zS) := fX1_sign_0 N S x0
def fX1_sort_59 (N : Nat) (K50 : zS × Nat × Nat × Int32 → Option (zS)) (K59 : zS × Nat × Nat × Int32 × Int32 → Option (zS)) (S : zS) (x0 : Nat) (x1 : Nat) (x2 : Int32) (x3 : Int32) : Option (zS) :=
  (zgr S x0 1 5).bind fun v1 =>
  (zil S v1 x2).bind fun v2 =>
  if v2 ≤ x3 then
    K50 (S, x0, x1, (x2 + (1 : Int32)))
  else
    (zrc S x1 5).bind fun u3 =>
    zb2 (fX5_put N S x1 x2) fun v6 S4 =>
    K59 (S4, x0, x1, x2, (x3 + (1 : Int32)))
def lX1_sort_59 (N : Nat) (K50 : zS × Nat × Nat × Int32 → Option (zS)) (S : zS) (x0 : Nat) (x1 : Nat) (x2 : Int32) (x3 : Int32) : Option (zS) := zloop (fun K y => fX1_sort_59 N K50 K y.1 y.2.1 y.2.2.1 y.2.2.2.1 y.2.2.2.2) N (S, x0, x1, x2, x3)
def fX1_sort_50 (N : Nat) (K50 : zS × Nat × Nat × Int32 → Option (zS)) (S : zS) (x0 : Nat) (x1 : Nat) (x2 : Int32) : Option (zS) :=
  if (255 : Int32) < x2 then
    some S
  else
    lX1_sort_59 N K50 S x0 x1 x2 (0 : Int32)
def lX1_sort_50 (N : Nat)  (S : zS) (x0 : Nat) (x1 : Nat) (x2 : Int32) : Option (zS) := zloop (fun K y => fX1_sort_50 N K y.1 y.2.1 y.2.2.1 y.2.2.2) N (S, x0, x1, x2)
def fX1_sort_10 (N : Nat) (K10 : zS × Nat × Nat × Int32 → Option (zS)) (S : zS) (x0 : Nat) (x1 : Nat) (x2 : Int32) : Option (zS) :=
  (zgi S x1 5 1).bind fun v7 =>
  if v7 ≤ x2 then
    (zpz S x1 (0 : Int32)).bind fun S8 =>
    lX1_sort_50 N S8 x0 x1 (0 : Int32)
  else
    (zgr S x0 1 5).bind fun v9 =>
    (zgr S x1 5 0).bind fun v10 =>
    (zib S v10 x2).bind fun v11 =>
    (zil S v9 (v11 &&& (255 : Int32))).bind fun v12 =>
    (zis S v9 (v11 &&& (255 : Int32)) (v12 + (1 : Int32))).bind fun S13 =>
    K10 (S13, x0, x1, (x2 + (1 : Int32)))
def lX1_sort_10 (N : Nat)  (S : zS) (x0 : Nat) (x1 : Nat) (x2 : Int32) : Option (zS) := zloop (fun K y => fX1_sort_10 N K y.1 y.2.1 y.2.2.1 y.2.2.2) N (S, x0, x1, x2)
def fX1_sort_0 (N : Nat) (S : zS) (x0 : Nat) (x1 : Nat) : Option (zS) :=
  (zgr S x0 1 5).bind fun v14 =>
  (fJ7_fill_53178 N S v14 (0 : Int32)).bind fun S15 =>
  lX1_sort_10 N S15 x0 x1 (0 : Int32)
def fX1_sort (N : Nat) (S : zS) (x0 : Nat) (x1 : Nat) : Option (zS) := fX1_sort_0 N S x0 x1
def fX1_strip_37 (N : Nat) (K4 : zS × Nat × Int32 × Int32 × Int32 → Option (zS)) (S : zS) (x0 : Nat) (x1 : Int32) (x2 : Int32) (x3 : Int32) : Option (zS) :=
  K4 (S, x0, x1, x2, (x3 + (1 : Int32)))
def fX1_strip_4 (N : Nat) (K4 : zS × Nat × Int32 × Int32 × Int32 → Option (zS)) (S : zS) (x0 : Nat) (x1 : Int32) (x2 : Int32) (x3 : Int32) : Option (zS) :=
  (zgi S x0 5 1).bind fun v1 =>
  if v1 ≤ x3 then
    (zpz S x0 x2).bind fun S2 =>
    some S2
  else
    (zgr S x0 5 0).bind fun v3 =>
    (zib S v3 x3).bind fun v4 =>
    if v4 = x1 then
      fX1_strip_37 N K4 S x0 x1 x2 x3
    else
      (zgr S x0 5 0).bind fun v5 =>
      (zgr S x0 5 0).bind fun v6 =>
      (zib S v6 x3).bind fun v7 =>
      (zibs S v5 x2 v7).bind fun S8 =>
      fX1_strip_37 N K4 S8 x0 x1 (x2 + (1 : Int32)) x3
def lX1_strip_4 (N : Nat)  (S : zS) (x0 : Nat) (x1 : Int32) (x2 : Int32) (x3 : Int32) : Option (zS) := zloop (fun K y => fX1_strip_4 N K y.1 y.2.1 y.2.2.1 y.2.2.2.1 y.2.2.2.2) N (S, x0, x1, x2, x3)
def fX1_strip_0 (N : Nat) (S : zS) (x0 : Nat) (x1 : Int32) : Option (zS) :=
  lX1_strip_4 N S x0 x1 (0 : Int32) (0 : Int32)
def fX1_strip (N : Nat) (S : zS) (x0 : Nat) (x1 : Int32) : Option (zS) := fX1_strip_0 N S x0 x1
def fX1_runTool_180 (N : Nat) (S : zS) : Option (Int32 × zS) :=
  some ((1 : Int32) &&& 1, S)
def fX1_runTool_94 (N : Nat) (S : zS) (x0 : Nat) (x2 : Nat) (x3 : Int32) (x4 : Int32) (x5 : Int32) (y0 : Nat) (y1 : Int32) (y2 : Nat) (y3 : Int32) : Option (Int32 × zS) :=
  (zrc S y0 1).bind fun u1 =>
  zb2 (fX1_join N S y0 y1 y2 y3) fun v4 S2 =>
  if v4 = (0 : Int32) then
    some ((0 : Int32) &&& 1, S2)
  else
    if x3 = (1 : Int32) then
      (zrc S2 x2 5).bind fun u5 =>
      zb2 (fX5_put N S2 x2 x5) fun v8 S6 =>
      some (v8 &&& 1, S6)
    else
    if x3 = (2 : Int32) then
      fX1_runTool_180 N S2
    else
    if x3 = (3 : Int32) then
      (fX1_strip N S2 x2 x4).bind fun S9 =>
      some ((1 : Int32) &&& 1, S9)
    else
    if x3 = (4 : Int32) then
      (fX1_mask N S2 x2 x4).bind fun S10 =>
      some ((1 : Int32) &&& 1, S10)
    else
    if x3 = (5 : Int32) then
      fX1_runTool_180 N S2
    else
    if x3 = (6 : Int32) then
      (zrc S2 x0 1).bind fun u11 =>
      (fX1_sort N S2 x0 x2).bind fun S12 =>
      some ((1 : Int32) &&& 1, S12)
    else
    if x3 = (7 : Int32) then
      (fX1_sign N S2 x2).bind fun S14 =>
      some ((1 : Int32) &&& 1, S14)
    else
    fX1_runTool_180 N S2
def fX1_runTool_93 (N : Nat) (S : zS) (x0 : Nat) (x2 : Nat) (x3 : Int32) (x4 : Int32) (x5 : Int32) (y0 : Nat) (y1 : Int32) (y2 : Nat) : Option (Int32 × zS) :=
  fX1_runTool_94 N S x0 x2 x3 x4 x5 y0 y1 y2 (0 : Int32)
def fX1_runTool_67 (N : Nat) (S : zS) (y0 : Nat) (y1 : Nat) (y2 : Int32) (y3 : Int32) : Option (Int32 × zS) :=
  (zrc S y1 1).bind fun u16 =>
  zb2 (fX1_inputRow N S y1 y2 y3) fun v18 S17 =>
  (zrc S17 y0 5).bind fun u19 =>
  zb2 (fX5_append N S17 y0 v18) fun v22 S20 =>
  some (v22 &&& 1, S20)
def fX1_runTool_0 (N : Nat) (S : zS) (x0 : Nat) (x1 : Int32) (x2 : Nat) : Option (Int32 × zS) :=
  (zgr S x0 1 0).bind fun v23 =>
  (zgr S v23 4 0).bind fun v24 =>
  (zil S v24 x1).bind fun v25 =>
  (zgr S x0 1 0).bind fun v26 =>
  (zgr S v26 4 1).bind fun v27 =>
  (zil S v27 x1).bind fun v28 =>
  (zgr S x0 1 2).bind fun v29 =>
  (zgr S x0 1 0).bind fun v30 =>
  (zgr S v30 4 2).bind fun v31 =>
  (zil S v31 x1).bind fun v32 =>
  (zil S v29 v32).bind fun v33 =>
  if v25 = (5 : Int32) then
    if v28 ≤ v33 then
      (zgr S x0 1 0).bind fun v34 =>
      (zgr S v34 4 4).bind fun v35 =>
      (zil S v35 x1).bind fun v36 =>
      fX1_runTool_67 N S x2 x0 x1 (v36 - (1 : Int32))
    else
      fX1_runTool_67 N S x2 x0 x1 (0 : Int32)
  else
    if v25 = (2 : Int32) then
      if (v33 &&& (1 : Int32)) = (0 : Int32) then
        fX1_runTool_93 N S x0 x2 v25 v28 v33 x0 x1 x2
      else
        fX1_runTool_94 N S x0 x2 v25 v28 v33 x0 x1 x2 (1 : Int32)
    else
      fX1_runTool_93 N S x0 x2 v25 v28 v33 x0 x1 x2
def fX1_runTool (N : Nat) (S : zS) (x0 : Nat) (x1 : Int32) (x2 : Nat) : Option (Int32 × zS) := fX1_runTool_0 N S x0 x1 x2
def fX1_make_69 (N : Nat) (K2 : zS × Nat × Int32 × Int32 → Option (zS)) (S : zS) (x0 : Nat) (x1 : Int32) (x2 : Int32) : Option (zS) :=
  K2 (S, x0, x1, (x2 + (1 : Int32)))
def fX1_make_68 (N : Nat) (K2 : zS × Nat × Int32 × Int32 → Option (zS)) (S : zS) (x0 : Nat) (x1 : Int32) (x2 : Int32) (y0 : Nat) (y1 : Int32) (y2 : Int32) : Option (zS) :=
  (zzs S y0 y1 y2).bind fun S1 =>
  fX1_make_69 N K2 S1 x0 x1 x2
def fX1_make_63 (N : Nat) (K2 : zS × Nat × Int32 × Int32 → Option (zS)) (S : zS) (x0 : Nat) (x1 : Int32) (x2 : Int32) (y0 : Nat) (y1 : Int32) : Option (zS) :=
  fX1_make_68 N K2 S x0 x1 x2 y0 y1 (1 : Int32)
def fX1_make_2 (N : Nat) (K2 : zS × Nat × Int32 × Int32 → Option (zS)) (S : zS) (x0 : Nat) (x1 : Int32) (x2 : Int32) : Option (zS) :=
  (zgr S x0 1 0).bind fun v2 =>
  (zgi S v2 4 8).bind fun v3 =>
  if v3 ≤ x2 then
    (zgi S x0 1 6).bind fun v4 =>
    (zpi S x0 1 6 (v4 &&& (x1 ^^^ (-1 : Int32)))).bind fun S5 =>
    some S5
  else
    (zgi S x0 1 6).bind fun v6 =>
    if ((x1 &&& v6) &&& ((1 : Int32) <<< (x2 &&& 31))) = (0 : Int32) then
      fX1_make_69 N K2 S x0 x1 x2
    else
      (zgr S x0 1 3).bind fun v7 =>
      (zal S v7 12 x2).bind fun v8 =>
      (zpz S v8 (0 : Int32)).bind fun S9 =>
      (zgr S9 x0 1 4).bind fun v10 =>
      (zrc S9 x0 1).bind fun u11 =>
      zb2 (fX1_hasGoodInputs N S9 x0 x2) fun v13 S12 =>
      if v13 = (0 : Int32) then
        fX1_make_63 N K2 S12 x0 x1 x2 v10 x2
      else
        (zgr S12 x0 1 3).bind fun v14 =>
        (zal S12 v14 12 x2).bind fun v15 =>
        (zrc S12 x0 1).bind fun u16 =>
        zb2 (fX1_runTool N S12 x0 x2 v15) fun v19 S17 =>
        if v19 = (0 : Int32) then
          fX1_make_63 N K2 S17 x0 x1 x2 v10 x2
        else
          fX1_make_68 N K2 S17 x0 x1 x2 v10 x2 (0 : Int32)
def lX1_make_2 (N : Nat)  (S : zS) (x0 : Nat) (x1 : Int32) (x2 : Int32) : Option (zS) := zloop (fun K y => fX1_make_2 N K y.1 y.2.1 y.2.2.1 y.2.2.2) N (S, x0, x1, x2)
def fX1_make_0 (N : Nat) (S : zS) (x0 : Nat) (x1 : Int32) : Option (zS) :=
  lX1_make_2 N S x0 x1 (0 : Int32)
def fX1_make (N : Nat) (S : zS) (x0 : Nat) (x1 : Int32) : Option (zS) := fX1_make_0 N S x0 x1
def fX1_makeIn_0 (N : Nat) (S : zS) (x0 : Nat) (x1 : Nat) (x2 : Int32) : Option (zS) :=
  (zrc S x0 1).bind fun u1 =>
  (fX1_open N S x0 x1).bind fun S2 =>
  (zgr S2 x0 1 0).bind fun v3 =>
  (zgr S2 v3 4 5).bind fun v4 =>
  (zil S2 v4 x2).bind fun v5 =>
  (zrc S2 x0 1).bind fun u6 =>
  (fX1_make N S2 x0 v5).bind fun S7 =>
  some S7
def fX1_makeIn (N : Nat) (S : zS) (x0 : Nat) (x1 : Nat) (x2 : Int32) : Option (zS) := fX1_makeIn_0 N S x0 x1 x2
def fX4_stepsReachedBy_31 (N : Nat) (K4 : zS × Nat × Int32 × Int32 × Int32 → Option (Int32 × zS)) (S : zS) (x0 : Nat) (x1 : Int32) (x2 : Int32) (x3 : Int32) : Option (Int32 × zS) :=
  K4 (S, x0, x1, x2, (x3 + (1 : Int32)))
def fX4_stepsReachedBy_4 (N : Nat) (K4 : zS × Nat × Int32 × Int32 × Int32 → Option (Int32 × zS)) (S : zS) (x0 : Nat) (x1 : Int32) (x2 : Int32) (x3 : Int32) : Option (Int32 × zS) :=
  (zgi S x0 4 8).bind fun v1 =>
  if v1 ≤ x3 then
    some (x2, S)
  else
    (zgr S x0 4 7).bind fun v2 =>
    (zil S v2 x3).bind fun v3 =>
    if ((zush v3 x1) &&& (1 : Int32)) = (0 : Int32) then
      fX4_stepsReachedBy_31 N K4 S x0 x1 x2 x3
    else
      zlet (x2 ||| ((1 : Int32) <<< (x3 &&& 31))) fun v4 =>
      fX4_stepsReachedBy_31 N K4 S x0 x1 v4 x3
def lX4_stepsReachedBy_4 (N : Nat)  (S : zS) (x0 : Nat) (x1 : Int32) (x2 : Int32) (x3 : Int32) : Option (Int32 × zS) := zloop (fun K y => fX4_stepsReachedBy_4 N K y.1 y.2.1 y.2.2.1 y.2.2.2.1 y.2.2.2.2) N (S, x0, x1, x2, x3)
def fX4_stepsReachedBy_0 (N : Nat) (S : zS) (x0 : Nat) (x1 : Int32) : Option (Int32 × zS) :=
  lX4_stepsReachedBy_4 N S x0 x1 (0 : Int32) (0 : Int32)
def fX4_stepsReachedBy (N : Nat) (S : zS) (x0 : Nat) (x1 : Int32) : Option (Int32 × zS) := fX4_stepsReachedBy_0 N S x0 x1
def fX1_turn_34 (N : Nat) (S : zS) : Option (zS) :=
  some S
def fX1_turn_0 (N : Nat) (S : zS) (x0 : Nat) (x1 : Int32) (x2 : Int32) : Option (zS) :=
  (zgr S x0 1 2).bind fun v1 =>
  (zil S v1 x1).bind fun v2 =>
  if v2 = x2 then
    fX1_turn_34 N S
  else
    (zgr S x0 1 2).bind fun v3 =>
    (zis S v3 x1 x2).bind fun S4 =>
    (zgi S4 x0 1 6).bind fun v5 =>
    (zgr S4 x0 1 0).bind fun v6 =>
    (zrc S4 v6 4).bind fun u7 =>
    zb2 (fX4_stepsReachedBy N S4 v6 x1) fun v9 S8 =>
    (zpi S8 x0 1 6 (v5 ||| v9)).bind fun S10 =>
    fX1_turn_34 N S10
def fX1_turn (N : Nat) (S : zS) (x0 : Nat) (x1 : Int32) (x2 : Int32) : Option (zS) := fX1_turn_0 N S x0 x1 x2
def fX4_ownWord_34 (N : Nat) (S : zS) (y0 : Int32) : Option (Int32 × zS) :=
  some (y0, S)
def fX4_ownWord_22 (N : Nat) (S : zS) (x0 : Nat) (x1 : Int32) : Option (Int32 × zS) :=
  (zgr S x0 4 2).bind fun v1 =>
  (zil S v1 x1).bind fun v2 =>
  fX4_ownWord_34 N S ((1 : Int32) <<< (v2 &&& 31))
def fX4_ownWord_0 (N : Nat) (S : zS) (x0 : Nat) (x1 : Int32) : Option (Int32 × zS) :=
  (zgr S x0 4 0).bind fun v3 =>
  (zil S v3 x1).bind fun v4 =>
  if v4 = (1 : Int32) then
    fX4_ownWord_22 N S x0 x1
  else
    if v4 = (2 : Int32) then
      fX4_ownWord_22 N S x0 x1
    else
      if v4 = (5 : Int32) then
        fX4_ownWord_22 N S x0 x1
      else
        fX4_ownWord_34 N S (0 : Int32)
def fX4_ownWord (N : Nat) (S : zS) (x0 : Nat) (x1 : Int32) : Option (Int32 × zS) := fX4_ownWord_0 N S x0 x1
def fX1_wordsRead_43 (N : Nat) (K4 : zS × Nat × Int32 × Int32 × Int32 → Option (Int32 × zS)) (S : zS) (x0 : Nat) (x1 : Int32) (x2 : Int32) (x3 : Int32) : Option (Int32 × zS) :=
  K4 (S, x0, x1, x2, (x3 + (1 : Int32)))
def fX1_wordsRead_4 (N : Nat) (K4 : zS × Nat × Int32 × Int32 × Int32 → Option (Int32 × zS)) (S : zS) (x0 : Nat) (x1 : Int32) (x2 : Int32) (x3 : Int32) : Option (Int32 × zS) :=
  (zgr S x0 1 0).bind fun v1 =>
  (zgi S v1 4 8).bind fun v2 =>
  if v2 ≤ x3 then
    some (x2, S)
  else
    if ((zush x1 x3) &&& (1 : Int32)) = (0 : Int32) then
      fX1_wordsRead_43 N K4 S x0 x1 x2 x3
    else
      (zgr S x0 1 4).bind fun v3 =>
      (zzl S v3 x3).bind fun v4 =>
      if v4 = (0 : Int32) then
        (zgr S x0 1 0).bind fun v5 =>
        (zrc S v5 4).bind fun u6 =>
        zb2 (fX4_ownWord N S v5 x3) fun v8 S7 =>
        fX1_wordsRead_43 N K4 S7 x0 x1 (x2 ||| v8) x3
      else
        fX1_wordsRead_43 N K4 S x0 x1 x2 x3
def lX1_wordsRead_4 (N : Nat)  (S : zS) (x0 : Nat) (x1 : Int32) (x2 : Int32) (x3 : Int32) : Option (Int32 × zS) := zloop (fun K y => fX1_wordsRead_4 N K y.1 y.2.1 y.2.2.1 y.2.2.2.1 y.2.2.2.2) N (S, x0, x1, x2, x3)
def fX1_wordsRead_0 (N : Nat) (S : zS) (x0 : Nat) (x1 : Int32) : Option (Int32 × zS) :=
  lX1_wordsRead_4 N S x0 x1 (0 : Int32) (0 : Int32)
def fX1_wordsRead (N : Nat) (S : zS) (x0 : Nat) (x1 : Int32) : Option (Int32 × zS) := fX1_wordsRead_0 N S x0 x1
def fX2_way_46 (N : Nat) (S : zS) (x2 : Int32) : Option (Int32 × zS) :=
  some (x2, S)
def fX2_way_7 (N : Nat) (K7 : zS × Nat × Int32 × Int32 × Int32 → Option (Int32 × zS)) (S : zS) (x0 : Nat) (x2 : Int32) (x3 : Int32) (x4 : Int32) : Option (Int32 × zS) :=
  if (30 : Int32) ≤ x4 then
    fX2_way_46 N S x2
  else
    if x3 = (-1 : Int32) then
      fX2_way_46 N S x2
    else
      if ((zush x2 x3) &&& (1 : Int32)) = (0 : Int32) then
        zlet (x2 ||| ((1 : Int32) <<< (x3 &&& 31))) fun v1 =>
        (zgr S x0 2 0).bind fun v2 =>
        (zil S v2 x3).bind fun v3 =>
        K7 (S, x0, v1, v3, (x4 + (1 : Int32)))
      else
        fX2_way_46 N S x2
def lX2_way_7 (N : Nat)  (S : zS) (x0 : Nat) (x2 : Int32) (x3 : Int32) (x4 : Int32) : Option (Int32 × zS) := zloop (fun K y => fX2_way_7 N K y.1 y.2.1 y.2.2.1 y.2.2.2.1 y.2.2.2.2) N (S, x0, x2, x3, x4)
def fX2_way_0 (N : Nat) (S : zS) (x0 : Nat) (x1 : Int32) : Option (Int32 × zS) :=
  lX2_way_7 N S x0 (0 : Int32) x1 (0 : Int32)
def fX2_way (N : Nat) (S : zS) (x0 : Nat) (x1 : Int32) : Option (Int32 × zS) := fX2_way_0 N S x0 x1
def fX2_after_29 (N : Nat) (S : zS) (x3 : Int32) : Option (Int32 × zS) :=
  some (x3, S)
def fX2_after_5 (N : Nat) (K5 : zS × Nat × Int32 × Int32 × Int32 → Option (Int32 × zS)) (S : zS) (x0 : Nat) (x2 : Int32) (x3 : Int32) (x4 : Int32) : Option (Int32 × zS) :=
  if x2 ≤ x4 then
    fX2_after_29 N S x3
  else
    if x3 = (-1 : Int32) then
      fX2_after_29 N S x3
    else
      (zgr S x0 2 0).bind fun v1 =>
      (zil S v1 x3).bind fun v2 =>
      K5 (S, x0, x2, v2, (x4 + (1 : Int32)))
def lX2_after_5 (N : Nat)  (S : zS) (x0 : Nat) (x2 : Int32) (x3 : Int32) (x4 : Int32) : Option (Int32 × zS) := zloop (fun K y => fX2_after_5 N K y.1 y.2.1 y.2.2.1 y.2.2.2.1 y.2.2.2.2) N (S, x0, x2, x3, x4)
def fX2_after_0 (N : Nat) (S : zS) (x0 : Nat) (x1 : Int32) (x2 : Int32) : Option (Int32 × zS) :=
  lX2_after_5 N S x0 x2 x1 (0 : Int32)
def fX2_after (N : Nat) (S : zS) (x0 : Nat) (x1 : Int32) (x2 : Int32) : Option (Int32 × zS) := fX2_after_0 N S x0 x1 x2
def fX2_ringStart_0 (N : Nat) (S : zS) (x0 : Nat) (x1 : Int32) : Option (Int32 × zS) :=
  (zrc S x0 2).bind fun u1 =>
  zb2 (fX2_way N S x0 x1) fun v3 S2 =>
  zb2 (fJ6_bitCount_0f7a4 N S2 v3) fun v5 S4 =>
  (zrc S4 x0 2).bind fun u6 =>
  zb2 (fX2_after N S4 x0 x1 v5) fun v8 S7 =>
  some (v8, S7)
def fX2_ringStart (N : Nat) (S : zS) (x0 : Nat) (x1 : Int32) : Option (Int32 × zS) := fX2_ringStart_0 N S x0 x1
def fX2_textsOn_39 (N : Nat) (K4 : zS × Nat × Int32 × Int32 × Int32 → Option (Int32 × zS)) (S : zS) (x0 : Nat) (x1 : Int32) (x2 : Int32) (x3 : Int32) : Option (Int32 × zS) :=
  K4 (S, x0, x1, x2, (x3 + (1 : Int32)))
def fX2_textsOn_4 (N : Nat) (K4 : zS × Nat × Int32 × Int32 × Int32 → Option (Int32 × zS)) (S : zS) (x0 : Nat) (x1 : Int32) (x2 : Int32) (x3 : Int32) : Option (Int32 × zS) :=
  if (30 : Int32) ≤ x3 then
    some (x2, S)
  else
    if ((zush x1 x3) &&& (1 : Int32)) = (0 : Int32) then
      fX2_textsOn_39 N K4 S x0 x1 x2 x3
    else
      (zgr S x0 2 0).bind fun v1 =>
      (zil S v1 x3).bind fun v2 =>
      if v2 = (-1 : Int32) then
        fX2_textsOn_39 N K4 S x0 x1 x2 x3
      else
        (zgr S x0 2 1).bind fun v3 =>
        (zil S v3 x3).bind fun v4 =>
        zlet (x2 ||| ((1 : Int32) <<< (v4 &&& 31))) fun v5 =>
        fX2_textsOn_39 N K4 S x0 x1 v5 x3
def lX2_textsOn_4 (N : Nat)  (S : zS) (x0 : Nat) (x1 : Int32) (x2 : Int32) (x3 : Int32) : Option (Int32 × zS) := zloop (fun K y => fX2_textsOn_4 N K y.1 y.2.1 y.2.2.1 y.2.2.2.1 y.2.2.2.2) N (S, x0, x1, x2, x3)
def fX2_textsOn_0 (N : Nat) (S : zS) (x0 : Nat) (x1 : Int32) : Option (Int32 × zS) :=
  lX2_textsOn_4 N S x0 x1 (0 : Int32) (0 : Int32)
def fX2_textsOn (N : Nat) (S : zS) (x0 : Nat) (x1 : Int32) : Option (Int32 × zS) := fX2_textsOn_0 N S x0 x1
def fX2_seeds_26 (N : Nat) (K4 : zS × Nat × Int32 × Int32 → Option (Int32 × zS)) (S : zS) (x0 : Nat) (x2 : Int32) (y0 : Int32) (y1 : Int32) : Option (Int32 × zS) :=
  K4 (S, x0, (y0 + y1), (x2 + (1 : Int32)))
def fX2_seeds_4 (N : Nat) (K4 : zS × Nat × Int32 × Int32 → Option (Int32 × zS)) (S : zS) (x0 : Nat) (x1 : Int32) (x2 : Int32) : Option (Int32 × zS) :=
  if (30 : Int32) ≤ x2 then
    some (x1, S)
  else
    (zgr S x0 2 0).bind fun v1 =>
    (zil S v1 x2).bind fun v2 =>
    if v2 = (-1 : Int32) then
      fX2_seeds_26 N K4 S x0 x2 x1 (1 : Int32)
    else
      fX2_seeds_26 N K4 S x0 x2 x1 (0 : Int32)
def lX2_seeds_4 (N : Nat)  (S : zS) (x0 : Nat) (x1 : Int32) (x2 : Int32) : Option (Int32 × zS) := zloop (fun K y => fX2_seeds_4 N K y.1 y.2.1 y.2.2.1 y.2.2.2) N (S, x0, x1, x2)
def fX2_seeds_0 (N : Nat) (S : zS) (x0 : Nat) : Option (Int32 × zS) :=
  lX2_seeds_4 N S x0 (0 : Int32) (0 : Int32)
def fX2_seeds (N : Nat) (S : zS) (x0 : Nat) : Option (Int32 × zS) := fX2_seeds_0 N S x0
def fX3_doOneMore_47 (N : Nat) (K2 : zS × Nat × Int32 × Int32 × Int32 → Option (zS)) (S : zS) (x0 : Nat) (x1 : Int32) (x2 : Int32) (x3 : Int32) : Option (zS) :=
  K2 (S, x0, x1, x2, (x3 + (1 : Int32)))
def fX3_doOneMore_2 (N : Nat) (K2 : zS × Nat × Int32 × Int32 × Int32 → Option (zS)) (S : zS) (x0 : Nat) (x1 : Int32) (x2 : Int32) (x3 : Int32) : Option (zS) :=
  if x2 ≤ x3 then
    some S
  else
    if ((zush x1 x3) &&& (1 : Int32)) = (0 : Int32) then
      (zgr S x0 3 1).bind fun v1 =>
      (zil S v1 x3).bind fun v2 =>
      if (v2 &&& (x1 ^^^ (-1 : Int32))) = (0 : Int32) then
        (zgr S x0 3 0).bind fun v3 =>
        (zll S v3 (x1 ||| ((1 : Int32) <<< (x3 &&& 31)))).bind fun v4 =>
        (zgr S x0 3 0).bind fun v5 =>
        (zll S v5 x1).bind fun v6 =>
        (zls S v3 (x1 ||| ((1 : Int32) <<< (x3 &&& 31))) (v4 + v6)).bind fun S7 =>
        fX3_doOneMore_47 N K2 S7 x0 x1 x2 x3
      else
        fX3_doOneMore_47 N K2 S x0 x1 x2 x3
    else
      fX3_doOneMore_47 N K2 S x0 x1 x2 x3
def lX3_doOneMore_2 (N : Nat)  (S : zS) (x0 : Nat) (x1 : Int32) (x2 : Int32) (x3 : Int32) : Option (zS) := zloop (fun K y => fX3_doOneMore_2 N K y.1 y.2.1 y.2.2.1 y.2.2.2.1 y.2.2.2.2) N (S, x0, x1, x2, x3)
def fX3_doOneMore_0 (N : Nat) (S : zS) (x0 : Nat) (x1 : Int32) (x2 : Int32) : Option (zS) :=
  lX3_doOneMore_2 N S x0 x1 x2 (0 : Int32)
def fX3_doOneMore (N : Nat) (S : zS) (x0 : Nat) (x1 : Int32) (x2 : Int32) : Option (zS) := fX3_doOneMore_0 N S x0 x1 x2
def fX3_numberedInputs_47 (N : Nat) (K5 : zS × Nat × Nat × Int32 × Int32 × Int32 → Option (Int32 × zS)) (S : zS) (x0 : Nat) (x1 : Nat) (x2 : Int32) (x3 : Int32) (x4 : Int32) : Option (Int32 × zS) :=
  K5 (S, x0, x1, x2, x3, (x4 + (1 : Int32)))
def fX3_numberedInputs_5 (N : Nat) (K5 : zS × Nat × Nat × Int32 × Int32 × Int32 → Option (Int32 × zS)) (S : zS) (x0 : Nat) (x1 : Nat) (x2 : Int32) (x3 : Int32) (x4 : Int32) : Option (Int32 × zS) :=
  (zgr S x1 4 4).bind fun v1 =>
  (zil S v1 x2).bind fun v2 =>
  if v2 ≤ x4 then
    some (x3, S)
  else
    (zrc S x1 4).bind fun u3 =>
    zb2 (fX4_input N S x1 x2 x4) fun v5 S4 =>
    if v5 < (100 : Int32) then
      fX3_numberedInputs_47 N K5 S4 x0 x1 x2 x3 x4
    else
      (zgr S4 x0 3 2).bind fun v6 =>
      (zil S4 v6 (v5 - (100 : Int32))).bind fun v7 =>
      zlet (x3 ||| ((1 : Int32) <<< (v7 &&& 31))) fun v8 =>
      fX3_numberedInputs_47 N K5 S4 x0 x1 x2 v8 x4
def lX3_numberedInputs_5 (N : Nat)  (S : zS) (x0 : Nat) (x1 : Nat) (x2 : Int32) (x3 : Int32) (x4 : Int32) : Option (Int32 × zS) := zloop (fun K y => fX3_numberedInputs_5 N K y.1 y.2.1 y.2.2.1 y.2.2.2.1 y.2.2.2.2.1 y.2.2.2.2.2) N (S, x0, x1, x2, x3, x4)
def fX3_numberedInputs_0 (N : Nat) (S : zS) (x0 : Nat) (x1 : Nat) (x2 : Int32) : Option (Int32 × zS) :=
  lX3_numberedInputs_5 N S x0 x1 x2 (0 : Int32) (0 : Int32)
def fX3_numberedInputs (N : Nat) (S : zS) (x0 : Nat) (x1 : Nat) (x2 : Int32) : Option (Int32 × zS) := fX3_numberedInputs_0 N S x0 x1 x2
def fX3_numberOthers_55 (N : Nat) (K5 : zS × Nat × Nat × Int32 × Int32 × Int32 → Option (Int32 × zS)) (S : zS) (x0 : Nat) (x1 : Nat) (x2 : Int32) (x3 : Int32) (x4 : Int32) : Option (Int32 × zS) :=
  K5 (S, x0, x1, x2, x3, (x4 + (1 : Int32)))
def fX3_numberOthers_5 (N : Nat) (K5 : zS × Nat × Nat × Int32 × Int32 × Int32 → Option (Int32 × zS)) (S : zS) (x0 : Nat) (x1 : Nat) (x2 : Int32) (x3 : Int32) (x4 : Int32) : Option (Int32 × zS) :=
  if x2 ≤ x4 then
    some (x3, S)
  else
    (zgr S x1 4 5).bind fun v1 =>
    (zil S v1 x2).bind fun v2 =>
    if ((zush v2 x4) &&& (1 : Int32)) = (0 : Int32) then
      fX3_numberOthers_55 N K5 S x0 x1 x2 x3 x4
    else
      if (15 : Int32) ≤ x3 then
        fX3_numberOthers_55 N K5 S x0 x1 x2 x3 x4
      else
        (zgr S x0 3 2).bind fun v3 =>
        (zis S v3 x4 x3).bind fun S4 =>
        (zgr S4 x0 3 1).bind fun v5 =>
        (zrc S4 x0 3).bind fun u6 =>
        zb2 (fX3_numberedInputs N S4 x0 x1 x4) fun v8 S7 =>
        (zis S7 v5 x3 v8).bind fun S9 =>
        fX3_numberOthers_55 N K5 S9 x0 x1 x2 (x3 + (1 : Int32)) x4
def lX3_numberOthers_5 (N : Nat)  (S : zS) (x0 : Nat) (x1 : Nat) (x2 : Int32) (x3 : Int32) (x4 : Int32) : Option (Int32 × zS) := zloop (fun K y => fX3_numberOthers_5 N K y.1 y.2.1 y.2.2.1 y.2.2.2.1 y.2.2.2.2.1 y.2.2.2.2.2) N (S, x0, x1, x2, x3, x4)
def fX3_numberOthers_0 (N : Nat) (S : zS) (x0 : Nat) (x1 : Nat) (x2 : Int32) : Option (Int32 × zS) :=
  lX3_numberOthers_5 N S x0 x1 x2 (0 : Int32) (0 : Int32)
def fX3_numberOthers (N : Nat) (S : zS) (x0 : Nat) (x1 : Nat) (x2 : Int32) : Option (Int32 × zS) := fX3_numberOthers_0 N S x0 x1 x2
def fX3_ordersOf_74 (N MC MS : Nat) (K48 : zS × Nat × Nat × Nat × Nat × Int32 × Int32 × Int32 → Option (Int64 × zS × Nat)) (S : zS) (z : Nat) (q : Nat) (w : Nat) (x0 : Nat) (x3 : Int32) (x4 : Int32) (x5 : Int32) : Option (Int64 × zS × Nat) :=
  K48 (S, z, q, w, x0, x3, x4, (x5 + (1 : Int32)))
def fX3_ordersOf_48 (N MC MS : Nat) (K48 : zS × Nat × Nat × Nat × Nat × Int32 × Int32 × Int32 → Option (Int64 × zS × Nat)) (S : zS) (z : Nat) (q : Nat) (w : Nat) (x0 : Nat) (x3 : Int32) (x4 : Int32) (x5 : Int32) : Option (Int64 × zS × Nat) :=
  if x4 ≤ x5 then
    (zgr S x0 3 0).bind fun v1 =>
    (zll S v1 (x4 - (1 : Int32))).bind fun v2 =>
    zfin MC MS q w (v2, S, z)
  else
    (zgr S x0 3 0).bind fun v3 =>
    (zll S v3 x5).bind fun v4 =>
    if (lg_cmp v4 (0 : Int64)) = (0 : Int32) then
      fX3_ordersOf_74 N MC MS K48 S z q w x0 x3 x4 x5
    else
      (zbud MC MS q w 0 0).bind fun u5 =>
      (zrc S x0 3).bind fun u6 =>
      (fX3_doOneMore N S x0 x5 x3).bind fun S7 =>
      fX3_ordersOf_74 N MC MS K48 S7 z q w x0 x3 x4 x5
def lX3_ordersOf_48 (N MC MS : Nat)  (S : zS) (z : Nat) (q : Nat) (w : Nat) (x0 : Nat) (x3 : Int32) (x4 : Int32) (x5 : Int32) : Option (Int64 × zS × Nat) := zloop (fun K y => fX3_ordersOf_48 N MC MS K y.1 y.2.1 y.2.2.1 y.2.2.2.1 y.2.2.2.2.1 y.2.2.2.2.2.1 y.2.2.2.2.2.2.1 y.2.2.2.2.2.2.2) N (S, z, q, w, x0, x3, x4, x5)
def fX3_ordersOf_30 (N MC MS : Nat) (S : zS) (z : Nat) (q : Nat) (w : Nat) (x0 : Nat) (x3 : Int32) (x4 : Int32) : Option (Int64 × zS × Nat) :=
  (zgr S x0 3 0).bind fun v8 =>
  (zbud MC MS q w 0 0).bind fun u9 =>
  (fJ7_fill_d0a16 N S v8 (0 : Int64)).bind fun S10 =>
  (zgr S10 x0 3 0).bind fun v11 =>
  (zls S10 v11 (0 : Int32) (1 : Int64)).bind fun S12 =>
  lX3_ordersOf_48 N MC MS S12 z q w x0 x3 x4 (0 : Int32)
def fX3_ordersOf_0 (N MC MS : Nat) (S : zS) (z : Nat) (q : Nat) (w : Nat) (x0 : Nat) (x1 : Nat) (x2 : Int32) : Option (Int64 × zS × Nat) :=
  (zbud MC MS q w 0 0).bind fun u13 =>
  (zrc S x0 3).bind fun u14 =>
  zb2 (fX3_numberOthers N S x0 x1 x2) fun v16 S15 =>
  (zgr S15 x0 3 0).bind fun v17 =>
  (zln S15 v17 10).bind fun v18 =>
  if ((1 : Int32) <<< (v16 &&& 31)) ≤ v18 then
    fX3_ordersOf_30 N MC MS S15 z q w x0 v16 ((1 : Int32) <<< (v16 &&& 31))
  else
    (zlg ((1 : Int32) <<< (v16 &&& 31))).bind fun k19 =>
    (zbud MC MS q w 1 k19).bind fun u20 =>
    zlet (zad S15 z 10 k19) fun S21 =>
    (zpr S21 x0 3 0 z).bind fun S22 =>
    fX3_ordersOf_30 N MC MS S22 (z + 1) (q + 1) (w + k19) x0 v16 ((1 : Int32) <<< (v16 &&& 31))
def fX3_ordersOf (N MC MS : Nat) (S : zS) (z : Nat) (q : Nat) (w : Nat) (x0 : Nat) (x1 : Nat) (x2 : Int32) : Option (Int64 × zS × Nat) := fX3_ordersOf_0 N MC MS S z q w x0 x1 x2
def fX4_addStep_0 (N : Nat) (S : zS) (x0 : Nat) (x1 : Int32) (x2 : Int32) (x3 : Int32) : Option (Int32 × zS) :=
  (zgi S x0 4 8).bind fun v1 =>
  (zgr S x0 4 0).bind fun v2 =>
  (zis S v2 v1 x1).bind fun S3 =>
  (zgr S3 x0 4 1).bind fun v4 =>
  (zis S3 v4 v1 x2).bind fun S5 =>
  (zgr S5 x0 4 2).bind fun v6 =>
  (zis S5 v6 v1 x3).bind fun S7 =>
  (zgr S7 x0 4 5).bind fun v8 =>
  (zis S7 v8 v1 ((1 : Int32) <<< (v1 &&& 31))).bind fun S9 =>
  (zgr S9 x0 4 7).bind fun v10 =>
  (zrc S9 x0 4).bind fun u11 =>
  zb2 (fX4_ownWord N S9 x0 v1) fun v13 S12 =>
  (zis S12 v10 v1 v13).bind fun S14 =>
  (zgi S14 x0 4 8).bind fun v15 =>
  (zpi S14 x0 4 8 (v15 + (1 : Int32))).bind fun S16 =>
  some (v1, S16)
def fX4_addStep (N : Nat) (S : zS) (x0 : Nat) (x1 : Int32) (x2 : Int32) (x3 : Int32) : Option (Int32 × zS) := fX4_addStep_0 N S x0 x1 x2 x3
def fX4_addInput_109 (N : Nat) (S : zS) (x0 : Nat) (x1 : Int32) : Option (Int32 × zS) :=
  (zgr S x0 4 4).bind fun v1 =>
  (zil S v1 x1).bind fun v2 =>
  some (v2, S)
def fX4_addInput_0 (N : Nat) (S : zS) (x0 : Nat) (x1 : Int32) (x2 : Int32) : Option (Int32 × zS) :=
  (zgr S x0 4 3).bind fun v3 =>
  (zgr S x0 4 4).bind fun v4 =>
  (zil S v4 x1).bind fun v5 =>
  (zis S v3 ((x1 * (4 : Int32)) + v5) x2).bind fun S6 =>
  (zgr S6 x0 4 4).bind fun v7 =>
  (zil S6 v7 x1).bind fun v8 =>
  (zis S6 v7 x1 (v8 + (1 : Int32))).bind fun S9 =>
  if (100 : Int32) ≤ x2 then
    (zgi S9 x0 4 9).bind fun v10 =>
    (zpi S9 x0 4 9 (v10 ||| ((1 : Int32) <<< ((x2 - (100 : Int32)) &&& 31)))).bind fun S11 =>
    (zgr S11 x0 4 5).bind fun v12 =>
    (zil S11 v12 x1).bind fun v13 =>
    (zgr S11 x0 4 5).bind fun v14 =>
    (zil S11 v14 (x2 - (100 : Int32))).bind fun v15 =>
    (zis S11 v12 x1 (v13 ||| v15)).bind fun S16 =>
    (zgr S16 x0 4 6).bind fun v17 =>
    (zil S16 v17 x1).bind fun v18 =>
    (zgr S16 x0 4 6).bind fun v19 =>
    (zil S16 v19 (x2 - (100 : Int32))).bind fun v20 =>
    (zis S16 v17 x1 (v18 ||| v20)).bind fun S21 =>
    (zgr S21 x0 4 7).bind fun v22 =>
    (zil S21 v22 x1).bind fun v23 =>
    (zgr S21 x0 4 7).bind fun v24 =>
    (zil S21 v24 (x2 - (100 : Int32))).bind fun v25 =>
    (zis S21 v22 x1 (v23 ||| v25)).bind fun S26 =>
    fX4_addInput_109 N S26 x0 x1
  else
    (zgr S9 x0 4 6).bind fun v27 =>
    (zil S9 v27 x1).bind fun v28 =>
    (zis S9 v27 x1 (v28 ||| ((1 : Int32) <<< (x2 &&& 31)))).bind fun S29 =>
    fX4_addInput_109 N S29 x0 x1
def fX4_addInput (N : Nat) (S : zS) (x0 : Nat) (x1 : Int32) (x2 : Int32) : Option (Int32 × zS) := fX4_addInput_0 N S x0 x1 x2
def fX5_isSameAs_15 (N : Nat) (K15 : zS × Nat × Nat × Int32 → Option (Int32 × zS)) (S : zS) (x0 : Nat) (x1 : Nat) (x2 : Int32) : Option (Int32 × zS) :=
  (zgi S x0 5 1).bind fun v1 =>
  if v1 ≤ x2 then
    some ((1 : Int32) &&& 1, S)
  else
    (zgr S x0 5 0).bind fun v2 =>
    (zib S v2 x2).bind fun v3 =>
    (zgr S x1 5 0).bind fun v4 =>
    (zib S v4 x2).bind fun v5 =>
    if v3 = v5 then
      K15 (S, x0, x1, (x2 + (1 : Int32)))
    else
      some ((0 : Int32) &&& 1, S)
def lX5_isSameAs_15 (N : Nat)  (S : zS) (x0 : Nat) (x1 : Nat) (x2 : Int32) : Option (Int32 × zS) := zloop (fun K y => fX5_isSameAs_15 N K y.1 y.2.1 y.2.2.1 y.2.2.2) N (S, x0, x1, x2)
def fX5_isSameAs_0 (N : Nat) (S : zS) (x0 : Nat) (x1 : Nat) : Option (Int32 × zS) :=
  (zgi S x0 5 1).bind fun v6 =>
  (zgi S x1 5 1).bind fun v7 =>
  if v6 = v7 then
    lX5_isSameAs_15 N S x0 x1 (0 : Int32)
  else
    some ((0 : Int32) &&& 1, S)
def fX5_isSameAs (N : Nat) (S : zS) (x0 : Nat) (x1 : Nat) : Option (Int32 × zS) := fX5_isSameAs_0 N S x0 x1
def fX6_tapeTo_0 (N : Nat) (S : zS) (x0 : Nat) (x1 : Int32) : Option (Int32 × zS) :=
  (zgr S x0 6 1).bind fun v1 =>
  (zal S v1 12 x1).bind fun v2 =>
  (zpz S v2 (0 : Int32)).bind fun S3 =>
  (zgr S3 x0 6 1).bind fun v4 =>
  (zal S3 v4 12 x1).bind fun v5 =>
  (zgr S3 x0 6 0).bind fun v6 =>
  (zrc S3 v5 5).bind fun u7 =>
  zb2 (fX5_append N S3 v5 v6) fun v10 S8 =>
  (zgr S8 x0 6 0).bind fun v11 =>
  (zpz S8 v11 (0 : Int32)).bind fun S12 =>
  (zgr S12 x0 6 1).bind fun v13 =>
  (zal S12 v13 12 x1).bind fun v14 =>
  (zgi S12 v14 5 1).bind fun v15 =>
  some (v15, S12)
def fX6_tapeTo (N : Nat) (S : zS) (x0 : Nat) (x1 : Int32) : Option (Int32 × zS) := fX6_tapeTo_0 N S x0 x1
def fX7_feed_37 (N : Nat) (K37 : zS × Int32 × Int32 × Nat × Int32 → Option (Int32 × zS)) (S : zS) (x1 : Int32) (x2 : Int32) (x3 : Nat) (x4 : Int32) : Option (Int32 × zS) :=
  if x1 ≤ x4 then
    (zgi S x3 5 1).bind fun v1 =>
    some (v1, S)
  else
    (zrc S x3 5).bind fun u2 =>
    zb2 (fX5_put N S x3 ((zush x2 ((8 : Int32) * x4)) &&& (255 : Int32))) fun v5 S3 =>
    K37 (S3, x1, x2, x3, (x4 + (1 : Int32)))
def lX7_feed_37 (N : Nat)  (S : zS) (x1 : Int32) (x2 : Int32) (x3 : Nat) (x4 : Int32) : Option (Int32 × zS) := zloop (fun K y => fX7_feed_37 N K y.1 y.2.1 y.2.2.1 y.2.2.2.1 y.2.2.2.2) N (S, x1, x2, x3, x4)
def fX7_feed_10 (N : Nat) (S : zS) : Option (Int32 × zS) :=
  some ((-1 : Int32), S)
def fX7_feed_0 (N : Nat) (S : zS) (x0 : Nat) (x1 : Int32) (x2 : Int32) : Option (Int32 × zS) :=
  if x1 < (1 : Int32) then
    fX7_feed_10 N S
  else
    if x1 ≤ (4 : Int32) then
      (zgr S x0 7 0).bind fun v6 =>
      (zgr S v6 6 0).bind fun v7 =>
      (zgi S v7 5 1).bind fun v8 =>
      if (v8 + x1) ≤ (60 : Int32) then
        lX7_feed_37 N S x1 x2 v7 (0 : Int32)
      else
        some ((-3 : Int32), S)
    else
      fX7_feed_10 N S
def fX7_feed (N : Nat) (S : zS) (x0 : Nat) (x1 : Int32) (x2 : Int32) : Option (Int32 × zS) := fX7_feed_0 N S x0 x1 x2
def fX7_text_0 (N : Nat) (S : zS) (x0 : Nat) : Option (Int32 × zS) :=
  (zgr S x0 7 0).bind fun v1 =>
  (zgi S v1 6 2).bind fun v2 =>
  if v2 < (20 : Int32) then
    (zgr S x0 7 0).bind fun v3 =>
    (zgr S x0 7 0).bind fun v4 =>
    (zgi S v4 6 2).bind fun v5 =>
    (zrc S v3 6).bind fun u6 =>
    zb2 (fX6_tapeTo N S v3 v5) fun v9 S7 =>
    (zgr S7 x0 7 0).bind fun v10 =>
    (zgi S7 v10 6 2).bind fun v11 =>
    (zpi S7 v10 6 2 (v11 + (1 : Int32))).bind fun S12 =>
    (zgr S12 x0 7 0).bind fun v13 =>
    (zgi S12 v13 6 2).bind fun v14 =>
    some ((v14 - (1 : Int32)), S12)
  else
    some ((-3 : Int32), S)
def fX7_text (N : Nat) (S : zS) (x0 : Nat) : Option (Int32 × zS) := fX7_text_0 N S x0
def fX7_isText_20 (N : Nat) (S : zS) (y0 : Int32) : Option (Int32 × zS) :=
  some (y0 &&& 1, S)
def fX7_isText_19 (N : Nat) (S : zS) : Option (Int32 × zS) :=
  fX7_isText_20 N S (0 : Int32)
def fX7_isText_0 (N : Nat) (S : zS) (x0 : Nat) (x1 : Int32) : Option (Int32 × zS) :=
  if x1 < (0 : Int32) then
    fX7_isText_19 N S
  else
    (zgr S x0 7 0).bind fun v1 =>
    (zgi S v1 6 2).bind fun v2 =>
    if v2 ≤ x1 then
      fX7_isText_19 N S
    else
      fX7_isText_20 N S (1 : Int32)
def fX7_isText (N : Nat) (S : zS) (x0 : Nat) (x1 : Int32) : Option (Int32 × zS) := fX7_isText_0 N S x0 x1
def fX7_write_0 (N : Nat) (S : zS) (x0 : Nat) (x1 : Int32) : Option (Int32 × zS) :=
  (zrc S x0 7).bind fun u1 =>
  zb2 (fX7_isText N S x0 x1) fun v3 S2 =>
  if v3 = (0 : Int32) then
    some ((-1 : Int32), S2)
  else
    (zgr S2 x0 7 0).bind fun v4 =>
    (zrc S2 v4 6).bind fun u5 =>
    zb2 (fX6_tapeTo N S2 v4 x1) fun v8 S6 =>
    some (v8, S6)
def fX7_write (N : Nat) (S : zS) (x0 : Nat) (x1 : Int32) : Option (Int32 × zS) := fX7_write_0 N S x0 x1
def fX7_isBit_14 (N : Nat) (S : zS) (y0 : Int32) : Option (Int32 × zS) :=
  some (y0 &&& 1, S)
def fX7_isBit_9 (N : Nat) (S : zS) : Option (Int32 × zS) :=
  fX7_isBit_14 N S (1 : Int32)
def fX7_isBit_0 (N : Nat) (S : zS) (x0 : Int32) : Option (Int32 × zS) :=
  if x0 = (0 : Int32) then
    fX7_isBit_9 N S
  else
    if x0 = (1 : Int32) then
      fX7_isBit_9 N S
    else
      fX7_isBit_14 N S (0 : Int32)
def fX7_isBit (N : Nat) (S : zS) (x0 : Int32) : Option (Int32 × zS) := fX7_isBit_0 N S x0
def fX7_withBit_0 (N : Nat) (S : zS) (x0 : Int32) (x1 : Int32) (x2 : Int32) : Option (Int32 × zS) :=
  some (((x0 &&& (((1 : Int32) <<< (x1 &&& 31)) ^^^ (-1 : Int32))) ||| (x2 <<< (x1 &&& 31))), S)
def fX7_withBit (N : Nat) (S : zS) (x0 : Int32) (x1 : Int32) (x2 : Int32) : Option (Int32 × zS) := fX7_withBit_0 N S x0 x1 x2
def fX7_lack_15 (N : Nat) (S : zS) : Option (Int32 × zS) :=
  some ((-1 : Int32), S)
def fX7_lack_0 (N : Nat) (S : zS) (x0 : Nat) (x1 : Int32) (x2 : Int32) : Option (Int32 × zS) :=
  (zrc S x0 7).bind fun u1 =>
  zb2 (fX7_isText N S x0 x1) fun v3 S2 =>
  if v3 = (0 : Int32) then
    fX7_lack_15 N S2
  else
    zb2 (fX7_isBit N S2 x2) fun v5 S4 =>
    if v5 = (0 : Int32) then
      fX7_lack_15 N S4
    else
      (zgr S4 x0 7 0).bind fun v6 =>
      (zgi S4 v6 6 3).bind fun v7 =>
      zlet ((zush v7 x1) &&& (1 : Int32)) fun v8 =>
      (zgr S4 x0 7 0).bind fun v9 =>
      (zgr S4 x0 7 0).bind fun v10 =>
      (zgi S4 v10 6 3).bind fun v11 =>
      zb2 (fX7_withBit N S4 v11 x1 x2) fun v13 S12 =>
      (zpi S12 v9 6 3 v13).bind fun S14 =>
      some (v8, S14)
def fX7_lack (N : Nat) (S : zS) (x0 : Nat) (x1 : Int32) (x2 : Int32) : Option (Int32 × zS) := fX7_lack_0 N S x0 x1 x2
def fX7_isRoom_15 (N : Nat) (S : zS) (y0 : Int32) : Option (Int32 × zS) :=
  some (y0 &&& 1, S)
def fX7_isRoom_14 (N : Nat) (S : zS) : Option (Int32 × zS) :=
  fX7_isRoom_15 N S (0 : Int32)
def fX7_isRoom_0 (N : Nat) (S : zS) (x0 : Int32) : Option (Int32 × zS) :=
  if x0 < (0 : Int32) then
    fX7_isRoom_14 N S
  else
    if (8 : Int32) ≤ x0 then
      fX7_isRoom_14 N S
    else
      fX7_isRoom_15 N S (1 : Int32)
def fX7_isRoom (N : Nat) (S : zS) (x0 : Int32) : Option (Int32 × zS) := fX7_isRoom_0 N S x0
def fX7_isWord_15 (N : Nat) (S : zS) (y0 : Int32) : Option (Int32 × zS) :=
  some (y0 &&& 1, S)
def fX7_isWord_14 (N : Nat) (S : zS) : Option (Int32 × zS) :=
  fX7_isWord_15 N S (0 : Int32)
def fX7_isWord_0 (N : Nat) (S : zS) (x0 : Int32) : Option (Int32 × zS) :=
  if x0 < (0 : Int32) then
    fX7_isWord_14 N S
  else
    if (8 : Int32) ≤ x0 then
      fX7_isWord_14 N S
    else
      fX7_isWord_15 N S (1 : Int32)
def fX7_isWord (N : Nat) (S : zS) (x0 : Int32) : Option (Int32 × zS) := fX7_isWord_0 N S x0
def fX7_word_25 (N : Nat) (S : zS) : Option (Int32 × zS) :=
  some ((-1 : Int32), S)
def fX7_word_0 (N : Nat) (S : zS) (x0 : Nat) (x1 : Int32) (x2 : Int32) (x3 : Int32) : Option (Int32 × zS) :=
  zb2 (fX7_isRoom N S x1) fun v2 S1 =>
  if v2 = (0 : Int32) then
    fX7_word_25 N S1
  else
    zb2 (fX7_isWord N S1 x2) fun v4 S3 =>
    if v4 = (0 : Int32) then
      fX7_word_25 N S3
    else
      if x3 < (0 : Int32) then
        fX7_word_25 N S3
      else
        if x3 ≤ (255 : Int32) then
          (zgr S3 x0 7 2).bind fun v5 =>
          (zal S3 v5 13 x1).bind fun v6 =>
          (zil S3 v6 x2).bind fun v7 =>
          (zgr S3 x0 7 2).bind fun v8 =>
          (zal S3 v8 13 x1).bind fun v9 =>
          (zis S3 v9 x2 x3).bind fun S10 =>
          some (v7, S10)
        else
          fX7_word_25 N S3
def fX7_word (N : Nat) (S : zS) (x0 : Nat) (x1 : Int32) (x2 : Int32) (x3 : Int32) : Option (Int32 × zS) := fX7_word_0 N S x0 x1 x2 x3
def fX7_areRooms_19 (N : Nat) (S : zS) (y0 : Int32) : Option (Int32 × zS) :=
  some (y0 &&& 1, S)
def fX7_areRooms_18 (N : Nat) (S : zS) : Option (Int32 × zS) :=
  fX7_areRooms_19 N S (0 : Int32)
def fX7_areRooms_0 (N : Nat) (S : zS) (x0 : Int32) (x1 : Int32) : Option (Int32 × zS) :=
  zb2 (fX7_isRoom N S x0) fun v2 S1 =>
  if v2 = (0 : Int32) then
    fX7_areRooms_18 N S1
  else
    zb2 (fX7_isRoom N S1 x1) fun v4 S3 =>
    if v4 = (0 : Int32) then
      fX7_areRooms_18 N S3
    else
      fX7_areRooms_19 N S3 (1 : Int32)
def fX7_areRooms (N : Nat) (S : zS) (x0 : Int32) (x1 : Int32) : Option (Int32 × zS) := fX7_areRooms_0 N S x0 x1
def fX7_unlikeWords_40 (N : Nat) (K5 : zS × Nat × Int32 × Int32 × Int32 × Int32 → Option (Int32 × zS)) (S : zS) (x0 : Nat) (x1 : Int32) (x2 : Int32) (x3 : Int32) (x4 : Int32) : Option (Int32 × zS) :=
  K5 (S, x0, x1, x2, x3, (x4 + (1 : Int32)))
def fX7_unlikeWords_5 (N : Nat) (K5 : zS × Nat × Int32 × Int32 × Int32 × Int32 → Option (Int32 × zS)) (S : zS) (x0 : Nat) (x1 : Int32) (x2 : Int32) (x3 : Int32) (x4 : Int32) : Option (Int32 × zS) :=
  if (8 : Int32) ≤ x4 then
    some (x3, S)
  else
    (zgr S x0 7 2).bind fun v1 =>
    (zal S v1 13 x1).bind fun v2 =>
    (zil S v2 x4).bind fun v3 =>
    (zgr S x0 7 2).bind fun v4 =>
    (zal S v4 13 x2).bind fun v5 =>
    (zil S v5 x4).bind fun v6 =>
    if v3 = v6 then
      fX7_unlikeWords_40 N K5 S x0 x1 x2 x3 x4
    else
      zlet (x3 ||| ((1 : Int32) <<< (x4 &&& 31))) fun v7 =>
      fX7_unlikeWords_40 N K5 S x0 x1 x2 v7 x4
def lX7_unlikeWords_5 (N : Nat)  (S : zS) (x0 : Nat) (x1 : Int32) (x2 : Int32) (x3 : Int32) (x4 : Int32) : Option (Int32 × zS) := zloop (fun K y => fX7_unlikeWords_5 N K y.1 y.2.1 y.2.2.1 y.2.2.2.1 y.2.2.2.2.1 y.2.2.2.2.2) N (S, x0, x1, x2, x3, x4)
def fX7_unlikeWords_0 (N : Nat) (S : zS) (x0 : Nat) (x1 : Int32) (x2 : Int32) : Option (Int32 × zS) :=
  lX7_unlikeWords_5 N S x0 x1 x2 (0 : Int32) (0 : Int32)
def fX7_unlikeWords (N : Nat) (S : zS) (x0 : Nat) (x1 : Int32) (x2 : Int32) : Option (Int32 × zS) := fX7_unlikeWords_0 N S x0 x1 x2
def fX7_copy_0 (N : Nat) (S : zS) (x0 : Nat) (x1 : Int32) (x2 : Int32) : Option (Int32 × zS) :=
  zb2 (fX7_areRooms N S x1 x2) fun v2 S1 =>
  if v2 = (0 : Int32) then
    some ((-1 : Int32), S1)
  else
    (zrc S1 x0 7).bind fun u3 =>
    zb2 (fX7_unlikeWords N S1 x0 x1 x2) fun v5 S4 =>
    zb2 (fJ6_bitCount_0f7a4 N S4 v5) fun v7 S6 =>
    (zgr S6 x0 7 2).bind fun v8 =>
    (zal S6 v8 13 x1).bind fun v9 =>
    (zgr S6 x0 7 2).bind fun v10 =>
    (zal S6 v10 13 x2).bind fun v11 =>
    (zcp S6 v9 (0 : Int32) v11 (0 : Int32) (8 : Int32)).bind fun S12 =>
    some (v7, S12)
def fX7_copy (N : Nat) (S : zS) (x0 : Nat) (x1 : Int32) (x2 : Int32) : Option (Int32 × zS) := fX7_copy_0 N S x0 x1 x2
def fX7_step_31 (N : Nat) (S : zS) : Option (Int32 × zS) :=
  some ((-1 : Int32), S)
def fX7_step_0 (N : Nat) (S : zS) (x0 : Nat) (x1 : Int32) (x2 : Int32) (x3 : Int32) : Option (Int32 × zS) :=
  if x1 < (0 : Int32) then
    fX7_step_31 N S
  else
    if (7 : Int32) < x1 then
      fX7_step_31 N S
    else
      if x2 < (0 : Int32) then
        fX7_step_31 N S
      else
        if (255 : Int32) < x2 then
          fX7_step_31 N S
        else
          if x3 < (0 : Int32) then
            fX7_step_31 N S
          else
            if x3 < (8 : Int32) then
              (zgr S x0 7 1).bind fun v1 =>
              (zgi S v1 4 8).bind fun v2 =>
              if v2 < (24 : Int32) then
                (zgr S x0 7 1).bind fun v3 =>
                (zrc S v3 4).bind fun u4 =>
                zb2 (fX4_addStep N S v3 x1 x2 x3) fun v6 S5 =>
                some (v6, S5)
              else
                some ((-3 : Int32), S)
            else
              fX7_step_31 N S
def fX7_step (N : Nat) (S : zS) (x0 : Nat) (x1 : Int32) (x2 : Int32) (x3 : Int32) : Option (Int32 × zS) := fX7_step_0 N S x0 x1 x2 x3
def fX7_isInputFor_27 (N : Nat) (S : zS) (y0 : Int32) : Option (Int32 × zS) :=
  some (y0 &&& 1, S)
def fX7_isInputFor_26 (N : Nat) (S : zS) : Option (Int32 × zS) :=
  fX7_isInputFor_27 N S (0 : Int32)
def fX7_isInputFor_22 (N : Nat) (S : zS) : Option (Int32 × zS) :=
  fX7_isInputFor_27 N S (1 : Int32)
def fX7_isInputFor_0 (N : Nat) (S : zS) (x0 : Nat) (x1 : Int32) (x2 : Int32) : Option (Int32 × zS) :=
  (zrc S x0 7).bind fun u1 =>
  zb2 (fX7_isText N S x0 x2) fun v3 S2 =>
  if v3 = (0 : Int32) then
    if x2 < (100 : Int32) then
      fX7_isInputFor_26 N S2
    else
      if ((100 : Int32) + x1) ≤ x2 then
        fX7_isInputFor_26 N S2
      else
        fX7_isInputFor_22 N S2
  else
    fX7_isInputFor_22 N S2
def fX7_isInputFor (N : Nat) (S : zS) (x0 : Nat) (x1 : Int32) (x2 : Int32) : Option (Int32 × zS) := fX7_isInputFor_0 N S x0 x1 x2
def fX7_isStep_20 (N : Nat) (S : zS) (y0 : Int32) : Option (Int32 × zS) :=
  some (y0 &&& 1, S)
def fX7_isStep_19 (N : Nat) (S : zS) : Option (Int32 × zS) :=
  fX7_isStep_20 N S (0 : Int32)
def fX7_isStep_0 (N : Nat) (S : zS) (x0 : Nat) (x1 : Int32) : Option (Int32 × zS) :=
  if x1 < (0 : Int32) then
    fX7_isStep_19 N S
  else
    (zgr S x0 7 1).bind fun v1 =>
    (zgi S v1 4 8).bind fun v2 =>
    if v2 ≤ x1 then
      fX7_isStep_19 N S
    else
      fX7_isStep_20 N S (1 : Int32)
def fX7_isStep (N : Nat) (S : zS) (x0 : Nat) (x1 : Int32) : Option (Int32 × zS) := fX7_isStep_0 N S x0 x1
def fX7_need_17 (N : Nat) (S : zS) : Option (Int32 × zS) :=
  some ((-1 : Int32), S)
def fX7_need_0 (N : Nat) (S : zS) (x0 : Nat) (x1 : Int32) (x2 : Int32) : Option (Int32 × zS) :=
  (zrc S x0 7).bind fun u1 =>
  zb2 (fX7_isStep N S x0 x1) fun v3 S2 =>
  if v3 = (0 : Int32) then
    fX7_need_17 N S2
  else
    (zrc S2 x0 7).bind fun u4 =>
    zb2 (fX7_isInputFor N S2 x0 x1 x2) fun v6 S5 =>
    if v6 = (0 : Int32) then
      fX7_need_17 N S5
    else
      (zgr S5 x0 7 1).bind fun v7 =>
      (zgi S5 v7 4 9).bind fun v8 =>
      if ((zush v8 x1) &&& (1 : Int32)) = (0 : Int32) then
        (zgr S5 x0 7 1).bind fun v9 =>
        (zgr S5 v9 4 4).bind fun v10 =>
        (zil S5 v10 x1).bind fun v11 =>
        if v11 < (4 : Int32) then
          (zgr S5 x0 7 1).bind fun v12 =>
          (zrc S5 v12 4).bind fun u13 =>
          zb2 (fX4_addInput N S5 v12 x1 x2) fun v15 S14 =>
          some (v15, S14)
        else
          some ((-3 : Int32), S5)
      else
        some ((-2 : Int32), S5)
def fX7_need (N : Nat) (S : zS) (x0 : Nat) (x1 : Int32) (x2 : Int32) : Option (Int32 × zS) := fX7_need_0 N S x0 x1 x2
def fX7_made_60 (N : Nat) (S : zS) (y0 : Int32) : Option (Int32 × zS) :=
  some (y0, S)
def fX7_made_15 (N : Nat) (S : zS) : Option (Int32 × zS) :=
  some ((-1 : Int32), S)
def fX7_made_0 (N : Nat) (S : zS) (x0 : Nat) (x1 : Int32) (x2 : Int32) : Option (Int32 × zS) :=
  zb2 (fX7_isRoom N S x1) fun v2 S1 =>
  if v2 = (0 : Int32) then
    fX7_made_15 N S1
  else
    (zrc S1 x0 7).bind fun u3 =>
    zb2 (fX7_isStep N S1 x0 x2) fun v5 S4 =>
    if v5 = (0 : Int32) then
      fX7_made_15 N S4
    else
      (zgr S4 x0 7 3).bind fun v6 =>
      (zgr S4 x0 7 2).bind fun v7 =>
      (zal S4 v7 13 x1).bind fun v8 =>
      (zrc S4 v6 1).bind fun u9 =>
      (fX1_makeIn N S4 v6 v8 x2).bind fun S10 =>
      (zgr S10 x0 7 3).bind fun v12 =>
      (zgr S10 v12 1 4).bind fun v13 =>
      (zzl S10 v13 x2).bind fun v14 =>
      if v14 = (0 : Int32) then
        (zgr S10 x0 7 3).bind fun v15 =>
        (zgr S10 v15 1 3).bind fun v16 =>
        (zal S10 v16 12 x2).bind fun v17 =>
        (zgi S10 v17 5 1).bind fun v18 =>
        fX7_made_60 N S10 v18
      else
        fX7_made_60 N S10 (-2 : Int32)
def fX7_made (N : Nat) (S : zS) (x0 : Nat) (x1 : Int32) (x2 : Int32) : Option (Int32 × zS) := fX7_made_0 N S x0 x1 x2
def fX7_at_88 (N : Nat) (S : zS) (y0 : Int32) : Option (Int32 × zS) :=
  some (y0, S)
def fX7_at_26 (N : Nat) (S : zS) : Option (Int32 × zS) :=
  some ((-1 : Int32), S)
def fX7_at_0 (N : Nat) (S : zS) (x0 : Nat) (x1 : Int32) (x2 : Int32) (x3 : Int32) : Option (Int32 × zS) :=
  zb2 (fX7_isRoom N S x1) fun v2 S1 =>
  if v2 = (0 : Int32) then
    fX7_at_26 N S1
  else
    (zrc S1 x0 7).bind fun u3 =>
    zb2 (fX7_isStep N S1 x0 x2) fun v5 S4 =>
    if v5 = (0 : Int32) then
      fX7_at_26 N S4
    else
      if x3 < (0 : Int32) then
        fX7_at_26 N S4
      else
        if x3 < (200 : Int32) then
          (zgr S4 x0 7 3).bind fun v6 =>
          (zgr S4 x0 7 2).bind fun v7 =>
          (zal S4 v7 13 x1).bind fun v8 =>
          (zrc S4 v6 1).bind fun u9 =>
          (fX1_makeIn N S4 v6 v8 x2).bind fun S10 =>
          (zgr S10 x0 7 3).bind fun v12 =>
          (zgr S10 v12 1 4).bind fun v13 =>
          (zzl S10 v13 x2).bind fun v14 =>
          if v14 = (0 : Int32) then
            (zgr S10 x0 7 3).bind fun v15 =>
            (zgr S10 v15 1 3).bind fun v16 =>
            (zal S10 v16 12 x2).bind fun v17 =>
            (zgi S10 v17 5 1).bind fun v18 =>
            if v18 ≤ x3 then
              fX7_at_88 N S10 (-1 : Int32)
            else
              (zgr S10 v17 5 0).bind fun v19 =>
              (zib S10 v19 x3).bind fun v20 =>
              fX7_at_88 N S10 v20
          else
            some ((-2 : Int32), S10)
        else
          fX7_at_26 N S4
def fX7_at (N : Nat) (S : zS) (x0 : Nat) (x1 : Int32) (x2 : Int32) (x3 : Int32) : Option (Int32 × zS) := fX7_at_0 N S x0 x1 x2 x3
def fX7_reads_61 (N : Nat) (S : zS) (y0 : Nat) (y1 : Int32) : Option (Int32 × zS) :=
  (zrc S y0 1).bind fun u1 =>
  zb2 (fX1_wordsRead N S y0 y1) fun v3 S2 =>
  some (v3, S2)
def fX7_reads_22 (N : Nat) (S : zS) : Option (Int32 × zS) :=
  some ((-1 : Int32), S)
def fX7_reads_0 (N : Nat) (S : zS) (x0 : Nat) (x1 : Int32) (x2 : Int32) (x3 : Int32) : Option (Int32 × zS) :=
  zb2 (fX7_isRoom N S x1) fun v5 S4 =>
  if v5 = (0 : Int32) then
    fX7_reads_22 N S4
  else
    (zrc S4 x0 7).bind fun u6 =>
    zb2 (fX7_isStep N S4 x0 x2) fun v8 S7 =>
    if v8 = (0 : Int32) then
      fX7_reads_22 N S7
    else
      zb2 (fX7_isBit N S7 x3) fun v10 S9 =>
      if v10 = (0 : Int32) then
        fX7_reads_22 N S9
      else
        (zgr S9 x0 7 3).bind fun v11 =>
        (zgr S9 x0 7 2).bind fun v12 =>
        (zal S9 v12 13 x1).bind fun v13 =>
        (zrc S9 v11 1).bind fun u14 =>
        (fX1_makeIn N S9 v11 v13 x2).bind fun S15 =>
        (zgr S15 x0 7 3).bind fun v17 =>
        if x3 = (0 : Int32) then
          fX7_reads_61 N S15 v17 ((1 : Int32) <<< (x2 &&& 31))
        else
          (zgr S15 x0 7 1).bind fun v18 =>
          (zgr S15 v18 4 5).bind fun v19 =>
          (zil S15 v19 x2).bind fun v20 =>
          fX7_reads_61 N S15 v17 v20
def fX7_reads (N : Nat) (S : zS) (x0 : Nat) (x1 : Int32) (x2 : Int32) (x3 : Int32) : Option (Int32 × zS) := fX7_reads_0 N S x0 x1 x2 x3
def fX7_uses_42 (N : Nat) (S : zS) (y0 : Int32) : Option (Int32 × zS) :=
  some (y0, S)
def fX7_uses_15 (N : Nat) (S : zS) : Option (Int32 × zS) :=
  some ((-1 : Int32), S)
def fX7_uses_0 (N : Nat) (S : zS) (x0 : Nat) (x1 : Int32) (x2 : Int32) : Option (Int32 × zS) :=
  (zrc S x0 7).bind fun u1 =>
  zb2 (fX7_isStep N S x0 x1) fun v3 S2 =>
  if v3 = (0 : Int32) then
    fX7_uses_15 N S2
  else
    zb2 (fX7_isBit N S2 x2) fun v5 S4 =>
    if v5 = (0 : Int32) then
      fX7_uses_15 N S4
    else
      if x2 = (0 : Int32) then
        (zgr S4 x0 7 1).bind fun v9 =>
        (zgr S4 v9 4 5).bind fun v10 =>
        (zil S4 v10 x1).bind fun v11 =>
        fX7_uses_42 N S4 v11
      else
        (zgr S4 x0 7 1).bind fun v6 =>
        (zgr S4 v6 4 6).bind fun v7 =>
        (zil S4 v7 x1).bind fun v8 =>
        fX7_uses_42 N S4 v8
def fX7_uses (N : Nat) (S : zS) (x0 : Nat) (x1 : Int32) (x2 : Int32) : Option (Int32 × zS) := fX7_uses_0 N S x0 x1 x2
def fX7_orders_0 (N MC MS : Nat) (S : zS) (z : Nat) (q : Nat) (w : Nat) (x0 : Nat) (x1 : Int32) : Option (Int64 × zS × Nat) :=
  (zbud MC MS q w 0 0).bind fun u1 =>
  (zrc S x0 7).bind fun u2 =>
  zb2 (fX7_isStep N S x0 x1) fun v4 S3 =>
  if v4 = (0 : Int32) then
    zfin MC MS q w ((-1 : Int64), S3, z)
  else
    (zgr S3 x0 7 1).bind fun v5 =>
    (zgr S3 v5 4 5).bind fun v6 =>
    (zil S3 v6 x1).bind fun v7 =>
    (zbud MC MS q w 0 0).bind fun u8 =>
    zb2 (fJ6_bitCount_0f7a4 N S3 v7) fun v10 S9 =>
    if v10 ≤ (16 : Int32) then
      (zgr S9 x0 7 6).bind fun v11 =>
      (zgr S9 x0 7 1).bind fun v12 =>
      (zbud MC MS q w MC MS).bind fun u13 =>
      (zrc S9 v11 3).bind fun u14 =>
      zb3 (fX3_ordersOf N MC MS S9 z 0 0 v11 v12 x1) fun v17 S15 z16 =>
      zfin MC MS (q + MC) (w + MS) (v17, S15, z16)
    else
      zfin MC MS q w ((-4 : Int64), S9, z)
def fX7_orders (N MC MS : Nat) (S : zS) (z : Nat) (q : Nat) (w : Nat) (x0 : Nat) (x1 : Int32) : Option (Int64 × zS × Nat) := fX7_orders_0 N MC MS S z q w x0 x1
def fX7_built_63 (N : Nat) (K34 : zS × Nat × Int32 × Int32 → Option (Int32 × zS)) (S : zS) (x0 : Nat) (x3 : Int32) (y0 : Int32) (y1 : Int32) : Option (Int32 × zS) :=
  K34 (S, x0, (y0 + y1), (x3 + (1 : Int32)))
def fX7_built_34 (N : Nat) (K34 : zS × Nat × Int32 × Int32 → Option (Int32 × zS)) (S : zS) (x0 : Nat) (x2 : Int32) (x3 : Int32) : Option (Int32 × zS) :=
  (zgr S x0 7 1).bind fun v1 =>
  (zgi S v1 4 8).bind fun v2 =>
  if v2 ≤ x3 then
    some (x2, S)
  else
    (zgr S x0 7 3).bind fun v3 =>
    (zgr S v3 1 4).bind fun v4 =>
    (zzl S v4 x3).bind fun v5 =>
    if v5 = (0 : Int32) then
      fX7_built_63 N K34 S x0 x3 x2 (1 : Int32)
    else
      fX7_built_63 N K34 S x0 x3 x2 (0 : Int32)
def lX7_built_34 (N : Nat)  (S : zS) (x0 : Nat) (x2 : Int32) (x3 : Int32) : Option (Int32 × zS) := zloop (fun K y => fX7_built_34 N K y.1 y.2.1 y.2.2.1 y.2.2.2) N (S, x0, x2, x3)
def fX7_built_0 (N : Nat) (S : zS) (x0 : Nat) (x1 : Int32) : Option (Int32 × zS) :=
  zb2 (fX7_isRoom N S x1) fun v7 S6 =>
  if v7 = (0 : Int32) then
    some ((-1 : Int32), S6)
  else
    (zgr S6 x0 7 3).bind fun v8 =>
    (zgr S6 x0 7 2).bind fun v9 =>
    (zal S6 v9 13 x1).bind fun v10 =>
    (zrc S6 v8 1).bind fun u11 =>
    (fX1_open N S6 v8 v10).bind fun S12 =>
    (zgr S12 x0 7 3).bind fun v13 =>
    (zrc S12 v13 1).bind fun u14 =>
    (fX1_make N S12 v13 (-1 : Int32)).bind fun S15 =>
    lX7_built_34 N S15 x0 (0 : Int32) (0 : Int32)
def fX7_built (N : Nat) (S : zS) (x0 : Nat) (x1 : Int32) : Option (Int32 × zS) := fX7_built_0 N S x0 x1
def fX7_buildBoth_0 (N : Nat) (S : zS) (x0 : Nat) (x1 : Int32) (x2 : Int32) (x3 : Int32) : Option (zS) :=
  (zgr S x0 7 3).bind fun v1 =>
  (zgr S x0 7 2).bind fun v2 =>
  (zal S v2 13 x1).bind fun v3 =>
  (zrc S v1 1).bind fun u4 =>
  (fX1_makeIn N S v1 v3 x3).bind fun S5 =>
  (zgr S5 x0 7 4).bind fun v7 =>
  (zgr S5 x0 7 2).bind fun v8 =>
  (zal S5 v8 13 x2).bind fun v9 =>
  (zrc S5 v7 1).bind fun u10 =>
  (fX1_makeIn N S5 v7 v9 x3).bind fun S11 =>
  some S11
def fX7_buildBoth (N : Nat) (S : zS) (x0 : Nat) (x1 : Int32) (x2 : Int32) (x3 : Int32) : Option (zS) := fX7_buildBoth_0 N S x0 x1 x2 x3
def fX7_sameThing_53 (N : Nat) (S : zS) (y0 : Int32) : Option (Int32 × zS) :=
  some (y0 &&& 1, S)
def fX7_sameThing_52 (N : Nat) (S : zS) : Option (Int32 × zS) :=
  fX7_sameThing_53 N S (0 : Int32)
def fX7_sameThing_24 (N : Nat) (S : zS) (x0 : Nat) (x1 : Int32) : Option (Int32 × zS) :=
  (zgr S x0 7 3).bind fun v1 =>
  (zgr S v1 1 4).bind fun v2 =>
  (zzl S v2 x1).bind fun v3 =>
  if v3 = (0 : Int32) then
    fX7_sameThing_52 N S
  else
    (zgr S x0 7 4).bind fun v4 =>
    (zgr S v4 1 4).bind fun v5 =>
    (zzl S v5 x1).bind fun v6 =>
    if v6 = (0 : Int32) then
      fX7_sameThing_52 N S
    else
      fX7_sameThing_53 N S (1 : Int32)
def fX7_sameThing_0 (N : Nat) (S : zS) (x0 : Nat) (x1 : Int32) : Option (Int32 × zS) :=
  (zgr S x0 7 3).bind fun v7 =>
  (zgr S v7 1 4).bind fun v8 =>
  (zzl S v8 x1).bind fun v9 =>
  if v9 = (0 : Int32) then
    (zgr S x0 7 4).bind fun v10 =>
    (zgr S v10 1 4).bind fun v11 =>
    (zzl S v11 x1).bind fun v12 =>
    if v12 = (0 : Int32) then
      (zgr S x0 7 3).bind fun v13 =>
      (zgr S v13 1 3).bind fun v14 =>
      (zal S v14 12 x1).bind fun v15 =>
      (zgr S x0 7 4).bind fun v16 =>
      (zgr S v16 1 3).bind fun v17 =>
      (zal S v17 12 x1).bind fun v18 =>
      (zrc S v15 5).bind fun u19 =>
      zb2 (fX5_isSameAs N S v15 v18) fun v21 S20 =>
      some (v21 &&& 1, S20)
    else
      fX7_sameThing_24 N S x0 x1
  else
    fX7_sameThing_24 N S x0 x1
def fX7_sameThing (N : Nat) (S : zS) (x0 : Nat) (x1 : Int32) : Option (Int32 × zS) := fX7_sameThing_0 N S x0 x1
def fX7_alike_38 (N : Nat) (S : zS) (y0 : Int32) : Option (Int32 × zS) :=
  some (y0, S)
def fX7_alike_16 (N : Nat) (S : zS) : Option (Int32 × zS) :=
  some ((-1 : Int32), S)
def fX7_alike_0 (N : Nat) (S : zS) (x0 : Nat) (x1 : Int32) (x2 : Int32) (x3 : Int32) : Option (Int32 × zS) :=
  zb2 (fX7_areRooms N S x1 x2) fun v2 S1 =>
  if v2 = (0 : Int32) then
    fX7_alike_16 N S1
  else
    (zrc S1 x0 7).bind fun u3 =>
    zb2 (fX7_isStep N S1 x0 x3) fun v5 S4 =>
    if v5 = (0 : Int32) then
      fX7_alike_16 N S4
    else
      (zrc S4 x0 7).bind fun u6 =>
      (fX7_buildBoth N S4 x0 x1 x2 x3).bind fun S7 =>
      (zrc S7 x0 7).bind fun u9 =>
      zb2 (fX7_sameThing N S7 x0 x3) fun v11 S10 =>
      if v11 = (0 : Int32) then
        fX7_alike_38 N S10 (0 : Int32)
      else
        fX7_alike_38 N S10 (1 : Int32)
def fX7_alike (N : Nat) (S : zS) (x0 : Nat) (x1 : Int32) (x2 : Int32) (x3 : Int32) : Option (Int32 × zS) := fX7_alike_0 N S x0 x1 x2 x3
def fX7_changes_49 (N : Nat) (S : zS) : Option (Int32 × zS) :=
  some ((-2 : Int32), S)
def fX7_changes_16 (N : Nat) (S : zS) : Option (Int32 × zS) :=
  some ((-1 : Int32), S)
def fX7_changes_0 (N : Nat) (S : zS) (x0 : Nat) (x1 : Int32) (x2 : Int32) (x3 : Int32) : Option (Int32 × zS) :=
  zb2 (fX7_areRooms N S x1 x2) fun v2 S1 =>
  if v2 = (0 : Int32) then
    fX7_changes_16 N S1
  else
    (zrc S1 x0 7).bind fun u3 =>
    zb2 (fX7_isStep N S1 x0 x3) fun v5 S4 =>
    if v5 = (0 : Int32) then
      fX7_changes_16 N S4
    else
      (zrc S4 x0 7).bind fun u6 =>
      (fX7_buildBoth N S4 x0 x1 x2 x3).bind fun S7 =>
      (zgr S7 x0 7 3).bind fun v9 =>
      (zgr S7 v9 1 4).bind fun v10 =>
      (zzl S7 v10 x3).bind fun v11 =>
      if v11 = (0 : Int32) then
        (zgr S7 x0 7 4).bind fun v12 =>
        (zgr S7 v12 1 4).bind fun v13 =>
        (zzl S7 v13 x3).bind fun v14 =>
        if v14 = (0 : Int32) then
          (zgr S7 x0 7 5).bind fun v15 =>
          (zgr S7 x0 7 3).bind fun v16 =>
          (zgr S7 v16 1 3).bind fun v17 =>
          (zal S7 v17 12 x3).bind fun v18 =>
          (zgr S7 x0 7 4).bind fun v19 =>
          (zgr S7 v19 1 3).bind fun v20 =>
          (zal S7 v20 12 x3).bind fun v21 =>
          (zrc S7 v15 0).bind fun u22 =>
          (fX0_lay N S7 v15 v18 v21).bind fun S23 =>
          (zgr S23 x0 7 5).bind fun v24 =>
          (zgi S23 v24 0 6).bind fun v25 =>
          some (v25, S23)
        else
          fX7_changes_49 N S7
      else
        fX7_changes_49 N S7
def fX7_changes (N : Nat) (S : zS) (x0 : Nat) (x1 : Int32) (x2 : Int32) (x3 : Int32) : Option (Int32 × zS) := fX7_changes_0 N S x0 x1 x2 x3
def fX7_change_66 (N : Nat) (S : zS) (y0 : Int32) : Option (Int32 × zS) :=
  some (y0, S)
def fX7_change_24 (N : Nat) (S : zS) : Option (Int32 × zS) :=
  some ((-1 : Int32), S)
def fX7_change_0 (N : Nat) (S : zS) (x0 : Nat) (x1 : Int32) (x2 : Int32) : Option (Int32 × zS) :=
  if x1 < (0 : Int32) then
    fX7_change_24 N S
  else
    (zgr S x0 7 5).bind fun v1 =>
    (zgi S v1 0 6).bind fun v2 =>
    if v2 ≤ x1 then
      fX7_change_24 N S
    else
      if x2 < (0 : Int32) then
        fX7_change_24 N S
      else
        if x2 ≤ (2 : Int32) then
          if x2 = (0 : Int32) then
            (zgr S x0 7 5).bind fun v9 =>
            (zgr S v9 0 0).bind fun v10 =>
            (zil S v10 x1).bind fun v11 =>
            some (v11, S)
          else
            if x2 = (1 : Int32) then
              (zgr S x0 7 5).bind fun v6 =>
              (zgr S v6 0 1).bind fun v7 =>
              (zil S v7 x1).bind fun v8 =>
              fX7_change_66 N S v8
            else
              (zgr S x0 7 5).bind fun v3 =>
              (zgr S v3 0 2).bind fun v4 =>
              (zil S v4 x1).bind fun v5 =>
              fX7_change_66 N S v5
        else
          fX7_change_24 N S
def fX7_change (N : Nat) (S : zS) (x0 : Nat) (x1 : Int32) (x2 : Int32) : Option (Int32 × zS) := fX7_change_0 N S x0 x1 x2
def fX7_cause_74 (N : Nat) (K39 : zS × Nat × Int32 × Int32 → Option (Int32 × zS)) (S : zS) (x0 : Nat) (x3 : Int32) (x4 : Int32) : Option (Int32 × zS) :=
  K39 (S, x0, x3, (x4 + (1 : Int32)))
def fX7_cause_39 (N : Nat) (K39 : zS × Nat × Int32 × Int32 → Option (Int32 × zS)) (S : zS) (x0 : Nat) (x3 : Int32) (x4 : Int32) : Option (Int32 × zS) :=
  if x3 ≤ x4 then
    some (x3, S)
  else
    (zgr S x0 7 1).bind fun v1 =>
    (zgr S v1 4 5).bind fun v2 =>
    (zil S v2 x3).bind fun v3 =>
    if ((zush v3 x4) &&& (1 : Int32)) = (0 : Int32) then
      fX7_cause_74 N K39 S x0 x3 x4
    else
      (zrc S x0 7).bind fun u4 =>
      zb2 (fX7_sameThing N S x0 x4) fun v6 S5 =>
      if v6 = (0 : Int32) then
        some (x4, S5)
      else
        fX7_cause_74 N K39 S5 x0 x3 x4
def lX7_cause_39 (N : Nat)  (S : zS) (x0 : Nat) (x3 : Int32) (x4 : Int32) : Option (Int32 × zS) := zloop (fun K y => fX7_cause_39 N K y.1 y.2.1 y.2.2.1 y.2.2.2) N (S, x0, x3, x4)
def fX7_cause_16 (N : Nat) (S : zS) : Option (Int32 × zS) :=
  some ((-1 : Int32), S)
def fX7_cause_0 (N : Nat) (S : zS) (x0 : Nat) (x1 : Int32) (x2 : Int32) (x3 : Int32) : Option (Int32 × zS) :=
  zb2 (fX7_areRooms N S x1 x2) fun v8 S7 =>
  if v8 = (0 : Int32) then
    fX7_cause_16 N S7
  else
    (zrc S7 x0 7).bind fun u9 =>
    zb2 (fX7_isStep N S7 x0 x3) fun v11 S10 =>
    if v11 = (0 : Int32) then
      fX7_cause_16 N S10
    else
      (zrc S10 x0 7).bind fun u12 =>
      (fX7_buildBoth N S10 x0 x1 x2 x3).bind fun S13 =>
      (zrc S13 x0 7).bind fun u15 =>
      zb2 (fX7_sameThing N S13 x0 x3) fun v17 S16 =>
      if v17 = (0 : Int32) then
        lX7_cause_39 N S16 x0 x3 (0 : Int32)
      else
        some ((-2 : Int32), S16)
def fX7_cause (N : Nat) (S : zS) (x0 : Nat) (x1 : Int32) (x2 : Int32) (x3 : Int32) : Option (Int32 × zS) := fX7_cause_0 N S x0 x1 x2 x3
def fX7_isFixedBy_34 (N : Nat) (K3 : zS × Nat × Int32 × Int32 × Int32 × Int32 × Int32 → Option (Int32 × zS)) (S : zS) (x0 : Nat) (x1 : Int32) (x2 : Int32) (x3 : Int32) (x4 : Int32) (x5 : Int32) (y0 : Nat) (y1 : Int32) (y2 : Nat) (y3 : Int32) : Option (Int32 × zS) :=
  (zal S y2 13 y3).bind fun v1 =>
  (zil S v1 x5).bind fun v2 =>
  (zrc S y0 1).bind fun u3 =>
  (fX1_turn N S y0 y1 v2).bind fun S4 =>
  K3 (S4, x0, x1, x2, x3, x4, (x5 + (1 : Int32)))
def fX7_isFixedBy_3 (N : Nat) (K3 : zS × Nat × Int32 × Int32 × Int32 × Int32 × Int32 → Option (Int32 × zS)) (S : zS) (x0 : Nat) (x1 : Int32) (x2 : Int32) (x3 : Int32) (x4 : Int32) (x5 : Int32) : Option (Int32 × zS) :=
  if (8 : Int32) ≤ x5 then
    (zgr S x0 7 4).bind fun v5 =>
    (zgr S x0 7 1).bind fun v6 =>
    (zgr S v6 4 5).bind fun v7 =>
    (zil S v7 x4).bind fun v8 =>
    (zrc S v5 1).bind fun u9 =>
    (fX1_make N S v5 v8).bind fun S10 =>
    (zrc S10 x0 7).bind fun u12 =>
    zb2 (fX7_sameThing N S10 x0 x4) fun v14 S13 =>
    some (v14 &&& 1, S13)
  else
    (zgr S x0 7 4).bind fun v15 =>
    (zgr S x0 7 2).bind fun v16 =>
    if ((zush x1 x5) &&& (1 : Int32)) = (0 : Int32) then
      fX7_isFixedBy_34 N K3 S x0 x1 x2 x3 x4 x5 v15 x5 v16 x3
    else
      fX7_isFixedBy_34 N K3 S x0 x1 x2 x3 x4 x5 v15 x5 v16 x2
def lX7_isFixedBy_3 (N : Nat)  (S : zS) (x0 : Nat) (x1 : Int32) (x2 : Int32) (x3 : Int32) (x4 : Int32) (x5 : Int32) : Option (Int32 × zS) := zloop (fun K y => fX7_isFixedBy_3 N K y.1 y.2.1 y.2.2.1 y.2.2.2.1 y.2.2.2.2.1 y.2.2.2.2.2.1 y.2.2.2.2.2.2) N (S, x0, x1, x2, x3, x4, x5)
def fX7_isFixedBy_0 (N : Nat) (S : zS) (x0 : Nat) (x1 : Int32) (x2 : Int32) (x3 : Int32) (x4 : Int32) : Option (Int32 × zS) :=
  lX7_isFixedBy_3 N S x0 x1 x2 x3 x4 (0 : Int32)
def fX7_isFixedBy (N : Nat) (S : zS) (x0 : Nat) (x1 : Int32) (x2 : Int32) (x3 : Int32) (x4 : Int32) : Option (Int32 × zS) := fX7_isFixedBy_0 N S x0 x1 x2 x3 x4
def fX7_isPart_21 (N : Nat) (S : zS) (y0 : Int32) : Option (Int32 × zS) :=
  some (y0 &&& 1, S)
def fX7_isPart_20 (N : Nat) (S : zS) : Option (Int32 × zS) :=
  fX7_isPart_21 N S (0 : Int32)
def fX7_isPart_0 (N : Nat) (S : zS) (x0 : Int32) (x1 : Int32) (x2 : Int32) : Option (Int32 × zS) :=
  if (x0 &&& (x1 ^^^ (-1 : Int32))) = (0 : Int32) then
    zb2 (fJ6_bitCount_0f7a4 N S x0) fun v2 S1 =>
    if v2 = x2 then
      fX7_isPart_21 N S1 (1 : Int32)
    else
      fX7_isPart_20 N S1
  else
    fX7_isPart_20 N S
def fX7_isPart (N : Nat) (S : zS) (x0 : Int32) (x1 : Int32) (x2 : Int32) : Option (Int32 × zS) := fX7_isPart_0 N S x0 x1 x2
def fX7_fix_91 (N : Nat) (K46 : zS × Nat × Int32 × Int32 × Int32 × Int32 × Int32 → Option (Int32 × zS)) (K56 : zS × Nat × Int32 × Int32 × Int32 × Int32 × Int32 × Int32 → Option (Int32 × zS)) (S : zS) (x0 : Nat) (x1 : Int32) (x2 : Int32) (x3 : Int32) (x4 : Int32) (x5 : Int32) (x6 : Int32) : Option (Int32 × zS) :=
  K56 (S, x0, x1, x2, x3, x4, x5, (x6 + (1 : Int32)))
def fX7_fix_56 (N : Nat) (K46 : zS × Nat × Int32 × Int32 × Int32 × Int32 × Int32 → Option (Int32 × zS)) (K56 : zS × Nat × Int32 × Int32 × Int32 × Int32 × Int32 × Int32 → Option (Int32 × zS)) (S : zS) (x0 : Nat) (x1 : Int32) (x2 : Int32) (x3 : Int32) (x4 : Int32) (x5 : Int32) (x6 : Int32) : Option (Int32 × zS) :=
  if (255 : Int32) < x6 then
    K46 (S, x0, x1, x2, x3, x4, (x5 + (1 : Int32)))
  else
    zb2 (fX7_isPart N S x6 x4 x5) fun v2 S1 =>
    if v2 = (0 : Int32) then
      fX7_fix_91 N K46 K56 S1 x0 x1 x2 x3 x4 x5 x6
    else
      (zrc S1 x0 7).bind fun u3 =>
      zb2 (fX7_isFixedBy N S1 x0 x6 x1 x2 x3) fun v6 S4 =>
      if v6 = (0 : Int32) then
        fX7_fix_91 N K46 K56 S4 x0 x1 x2 x3 x4 x5 x6
      else
        some (x6, S4)
def lX7_fix_56 (N : Nat) (K46 : zS × Nat × Int32 × Int32 × Int32 × Int32 × Int32 → Option (Int32 × zS)) (S : zS) (x0 : Nat) (x1 : Int32) (x2 : Int32) (x3 : Int32) (x4 : Int32) (x5 : Int32) (x6 : Int32) : Option (Int32 × zS) := zloop (fun K y => fX7_fix_56 N K46 K y.1 y.2.1 y.2.2.1 y.2.2.2.1 y.2.2.2.2.1 y.2.2.2.2.2.1 y.2.2.2.2.2.2.1 y.2.2.2.2.2.2.2) N (S, x0, x1, x2, x3, x4, x5, x6)
def fX7_fix_46 (N : Nat) (K46 : zS × Nat × Int32 × Int32 × Int32 × Int32 × Int32 → Option (Int32 × zS)) (S : zS) (x0 : Nat) (x1 : Int32) (x2 : Int32) (x3 : Int32) (x4 : Int32) (x5 : Int32) : Option (Int32 × zS) :=
  if (8 : Int32) < x5 then
    some (x4, S)
  else
    lX7_fix_56 N K46 S x0 x1 x2 x3 x4 x5 (0 : Int32)
def lX7_fix_46 (N : Nat)  (S : zS) (x0 : Nat) (x1 : Int32) (x2 : Int32) (x3 : Int32) (x4 : Int32) (x5 : Int32) : Option (Int32 × zS) := zloop (fun K y => fX7_fix_46 N K y.1 y.2.1 y.2.2.1 y.2.2.2.1 y.2.2.2.2.1 y.2.2.2.2.2.1 y.2.2.2.2.2.2) N (S, x0, x1, x2, x3, x4, x5)
def fX7_fix_16 (N : Nat) (S : zS) : Option (Int32 × zS) :=
  some ((-1 : Int32), S)
def fX7_fix_0 (N : Nat) (S : zS) (x0 : Nat) (x1 : Int32) (x2 : Int32) (x3 : Int32) : Option (Int32 × zS) :=
  zb2 (fX7_areRooms N S x1 x2) fun v8 S7 =>
  if v8 = (0 : Int32) then
    fX7_fix_16 N S7
  else
    (zrc S7 x0 7).bind fun u9 =>
    zb2 (fX7_isStep N S7 x0 x3) fun v11 S10 =>
    if v11 = (0 : Int32) then
      fX7_fix_16 N S10
    else
      (zrc S10 x0 7).bind fun u12 =>
      (fX7_buildBoth N S10 x0 x1 x2 x3).bind fun S13 =>
      (zgr S13 x0 7 1).bind fun v15 =>
      (zgr S13 v15 4 7).bind fun v16 =>
      (zil S13 v16 x3).bind fun v17 =>
      (zrc S13 x0 7).bind fun u18 =>
      zb2 (fX7_unlikeWords N S13 x0 x1 x2) fun v20 S19 =>
      lX7_fix_46 N S19 x0 x1 x2 x3 (v17 &&& v20) (0 : Int32)
def fX7_fix (N : Nat) (S : zS) (x0 : Nat) (x1 : Int32) (x2 : Int32) (x3 : Int32) : Option (Int32 × zS) := fX7_fix_0 N S x0 x1 x2 x3
def fX7_firstUnlike_49 (N : Nat) (K49 : zS × Nat × Int32 × Int32 × Int32 × Int32 → Option (Int32 × zS)) (S : zS) (x0 : Nat) (x2 : Int32) (x3 : Int32) (x4 : Int32) (x5 : Int32) : Option (Int32 × zS) :=
  if x4 < x5 then
    some ((-1 : Int32), S)
  else
    (zgr S x0 7 4).bind fun v1 =>
    (zrc S v1 1).bind fun u2 =>
    (fX1_turn N S v1 x3 x5).bind fun S3 =>
    (zgr S3 x0 7 4).bind fun v4 =>
    (zgr S3 x0 7 1).bind fun v5 =>
    (zgr S3 v5 4 5).bind fun v6 =>
    (zil S3 v6 x2).bind fun v7 =>
    (zrc S3 v4 1).bind fun u8 =>
    (fX1_make N S3 v4 v7).bind fun S9 =>
    (zrc S9 x0 7).bind fun u11 =>
    zb2 (fX7_sameThing N S9 x0 x2) fun v13 S12 =>
    if v13 = (0 : Int32) then
      some (x5, S12)
    else
      K49 (S12, x0, x2, x3, x4, (x5 + (1 : Int32)))
def lX7_firstUnlike_49 (N : Nat)  (S : zS) (x0 : Nat) (x2 : Int32) (x3 : Int32) (x4 : Int32) (x5 : Int32) : Option (Int32 × zS) := zloop (fun K y => fX7_firstUnlike_49 N K y.1 y.2.1 y.2.2.1 y.2.2.2.1 y.2.2.2.2.1 y.2.2.2.2.2) N (S, x0, x2, x3, x4, x5)
def fX7_firstUnlike_0 (N : Nat) (S : zS) (x0 : Nat) (x1 : Int32) (x2 : Int32) (x3 : Int32) (x4 : Int32) : Option (Int32 × zS) :=
  (zgr S x0 7 1).bind fun v14 =>
  (zgr S v14 4 7).bind fun v15 =>
  (zil S v15 x2).bind fun v16 =>
  if ((zush v16 x3) &&& (1 : Int32)) = (0 : Int32) then
    some ((-1 : Int32), S)
  else
    (zgr S x0 7 3).bind fun v17 =>
    (zgr S x0 7 2).bind fun v18 =>
    (zal S v18 13 x1).bind fun v19 =>
    (zrc S v17 1).bind fun u20 =>
    (fX1_makeIn N S v17 v19 x2).bind fun S21 =>
    (zgr S21 x0 7 4).bind fun v23 =>
    (zgr S21 x0 7 2).bind fun v24 =>
    (zal S21 v24 13 x1).bind fun v25 =>
    (zrc S21 v23 1).bind fun u26 =>
    (fX1_makeIn N S21 v23 v25 x2).bind fun S27 =>
    lX7_firstUnlike_49 N S27 x0 x2 x3 x4 (0 : Int32)
def fX7_firstUnlike (N : Nat) (S : zS) (x0 : Nat) (x1 : Int32) (x2 : Int32) (x3 : Int32) (x4 : Int32) : Option (Int32 × zS) := fX7_firstUnlike_0 N S x0 x1 x2 x3 x4
def fX7_stable_55 (N : Nat) (S : zS) (y0 : Int32) : Option (Int32 × zS) :=
  some (y0, S)
def fX7_stable_35 (N : Nat) (S : zS) : Option (Int32 × zS) :=
  some ((-1 : Int32), S)
def fX7_stable_0 (N : Nat) (S : zS) (x0 : Nat) (x1 : Int32) (x2 : Int32) (x3 : Int32) (x4 : Int32) : Option (Int32 × zS) :=
  zb2 (fX7_isRoom N S x1) fun v2 S1 =>
  if v2 = (0 : Int32) then
    fX7_stable_35 N S1
  else
    (zrc S1 x0 7).bind fun u3 =>
    zb2 (fX7_isStep N S1 x0 x2) fun v5 S4 =>
    if v5 = (0 : Int32) then
      fX7_stable_35 N S4
    else
      zb2 (fX7_isWord N S4 x3) fun v7 S6 =>
      if v7 = (0 : Int32) then
        fX7_stable_35 N S6
      else
        if x4 < (0 : Int32) then
          fX7_stable_35 N S6
        else
          if x4 ≤ (255 : Int32) then
            (zrc S6 x0 7).bind fun u8 =>
            zb2 (fX7_firstUnlike N S6 x0 x1 x2 x3 x4) fun v11 S9 =>
            if v11 = (-1 : Int32) then
              fX7_stable_55 N S9 (1 : Int32)
            else
              fX7_stable_55 N S9 (0 : Int32)
          else
            fX7_stable_35 N S6
def fX7_stable (N : Nat) (S : zS) (x0 : Nat) (x1 : Int32) (x2 : Int32) (x3 : Int32) (x4 : Int32) : Option (Int32 × zS) := fX7_stable_0 N S x0 x1 x2 x3 x4
def fX7_breaks_49 (N : Nat) (S : zS) (y0 : Int32) : Option (Int32 × zS) :=
  some (y0, S)
def fX7_breaks_22 (N : Nat) (S : zS) : Option (Int32 × zS) :=
  some ((-1 : Int32), S)
def fX7_breaks_0 (N : Nat) (S : zS) (x0 : Nat) (x1 : Int32) (x2 : Int32) (x3 : Int32) : Option (Int32 × zS) :=
  zb2 (fX7_isRoom N S x1) fun v2 S1 =>
  if v2 = (0 : Int32) then
    fX7_breaks_22 N S1
  else
    (zrc S1 x0 7).bind fun u3 =>
    zb2 (fX7_isStep N S1 x0 x2) fun v5 S4 =>
    if v5 = (0 : Int32) then
      fX7_breaks_22 N S4
    else
      zb2 (fX7_isWord N S4 x3) fun v7 S6 =>
      if v7 = (0 : Int32) then
        fX7_breaks_22 N S6
      else
        (zrc S6 x0 7).bind fun u8 =>
        zb2 (fX7_firstUnlike N S6 x0 x1 x2 x3 (255 : Int32)) fun v11 S9 =>
        if v11 = (-1 : Int32) then
          fX7_breaks_49 N S9 (-2 : Int32)
        else
          fX7_breaks_49 N S9 v11
def fX7_breaks (N : Nat) (S : zS) (x0 : Nat) (x1 : Int32) (x2 : Int32) (x3 : Int32) : Option (Int32 × zS) := fX7_breaks_0 N S x0 x1 x2 x3
def fX7_wordsUnlikeIn_38 (N : Nat) (K12 : zS × Nat × Int32 × Int32 × Int32 × Int32 → Option (Int32 × zS)) (S : zS) (x0 : Nat) (x1 : Int32) (x2 : Int32) (x3 : Int32) (x4 : Int32) : Option (Int32 × zS) :=
  K12 (S, x0, x1, x2, x3, (x4 + (1 : Int32)))
def fX7_wordsUnlikeIn_12 (N : Nat) (K12 : zS × Nat × Int32 × Int32 × Int32 × Int32 → Option (Int32 × zS)) (S : zS) (x0 : Nat) (x1 : Int32) (x2 : Int32) (x3 : Int32) (x4 : Int32) : Option (Int32 × zS) :=
  if (8 : Int32) ≤ x4 then
    some (x3, S)
  else
    if ((zush x1 x4) &&& (1 : Int32)) = (0 : Int32) then
      fX7_wordsUnlikeIn_38 N K12 S x0 x1 x2 x3 x4
    else
      (zrc S x0 7).bind fun u1 =>
      zb2 (fX7_unlikeWords N S x0 x2 x4) fun v3 S2 =>
      fX7_wordsUnlikeIn_38 N K12 S2 x0 x1 x2 (x3 ||| v3) x4
def lX7_wordsUnlikeIn_12 (N : Nat)  (S : zS) (x0 : Nat) (x1 : Int32) (x2 : Int32) (x3 : Int32) (x4 : Int32) : Option (Int32 × zS) := zloop (fun K y => fX7_wordsUnlikeIn_12 N K y.1 y.2.1 y.2.2.1 y.2.2.2.1 y.2.2.2.2.1 y.2.2.2.2.2) N (S, x0, x1, x2, x3, x4)
def fX7_wordsUnlikeIn_0 (N : Nat) (S : zS) (x0 : Nat) (x1 : Int32) : Option (Int32 × zS) :=
  zb2 (fJ6_numberOfTrailingZeros_0f7a4 N S x1) fun v5 S4 =>
  lX7_wordsUnlikeIn_12 N S4 x0 x1 v5 (0 : Int32) (v5 + (1 : Int32))
def fX7_wordsUnlikeIn (N : Nat) (S : zS) (x0 : Nat) (x1 : Int32) : Option (Int32 × zS) := fX7_wordsUnlikeIn_0 N S x0 x1
def fX7_rooms_101 (N : Nat) (K56 : zS × Nat × Int32 × Int32 × Int32 → Option (Int32 × zS)) (K66 : zS × Nat × Int32 × Int32 × Int32 × Int32 → Option (Int32 × zS)) (S : zS) (x0 : Nat) (x2 : Int32) (x3 : Int32) (x4 : Int32) (x5 : Int32) : Option (Int32 × zS) :=
  K66 (S, x0, x2, x3, x4, (x5 + (1 : Int32)))
def fX7_rooms_66 (N : Nat) (K56 : zS × Nat × Int32 × Int32 × Int32 → Option (Int32 × zS)) (K66 : zS × Nat × Int32 × Int32 × Int32 × Int32 → Option (Int32 × zS)) (S : zS) (x0 : Nat) (x2 : Int32) (x3 : Int32) (x4 : Int32) (x5 : Int32) : Option (Int32 × zS) :=
  if (255 : Int32) < x5 then
    K56 (S, x0, x2, x3, (x4 + (1 : Int32)))
  else
    zb2 (fX7_isPart N S x5 x2 x4) fun v2 S1 =>
    if v2 = (0 : Int32) then
      fX7_rooms_101 N K56 K66 S1 x0 x2 x3 x4 x5
    else
      (zrc S1 x0 7).bind fun u3 =>
      zb2 (fX7_wordsUnlikeIn N S1 x0 x5) fun v5 S4 =>
      if (x3 &&& (v5 ^^^ (-1 : Int32))) = (0 : Int32) then
        some (x5, S4)
      else
        fX7_rooms_101 N K56 K66 S4 x0 x2 x3 x4 x5
def lX7_rooms_66 (N : Nat) (K56 : zS × Nat × Int32 × Int32 × Int32 → Option (Int32 × zS)) (S : zS) (x0 : Nat) (x2 : Int32) (x3 : Int32) (x4 : Int32) (x5 : Int32) : Option (Int32 × zS) := zloop (fun K y => fX7_rooms_66 N K56 K y.1 y.2.1 y.2.2.1 y.2.2.2.1 y.2.2.2.2.1 y.2.2.2.2.2) N (S, x0, x2, x3, x4, x5)
def fX7_rooms_56 (N : Nat) (K56 : zS × Nat × Int32 × Int32 × Int32 → Option (Int32 × zS)) (S : zS) (x0 : Nat) (x2 : Int32) (x3 : Int32) (x4 : Int32) : Option (Int32 × zS) :=
  if (8 : Int32) < x4 then
    some ((-2 : Int32), S)
  else
    lX7_rooms_66 N K56 S x0 x2 x3 x4 (1 : Int32)
def lX7_rooms_56 (N : Nat)  (S : zS) (x0 : Nat) (x2 : Int32) (x3 : Int32) (x4 : Int32) : Option (Int32 × zS) := zloop (fun K y => fX7_rooms_56 N K y.1 y.2.1 y.2.2.1 y.2.2.2.1 y.2.2.2.2) N (S, x0, x2, x3, x4)
def fX7_rooms_20 (N : Nat) (S : zS) : Option (Int32 × zS) :=
  some ((-1 : Int32), S)
def fX7_rooms_0 (N : Nat) (S : zS) (x0 : Nat) (x1 : Int32) (x2 : Int32) : Option (Int32 × zS) :=
  (zrc S x0 7).bind fun u6 =>
  zb2 (fX7_isStep N S x0 x1) fun v8 S7 =>
  if v8 = (0 : Int32) then
    fX7_rooms_20 N S7
  else
    if x2 < (1 : Int32) then
      fX7_rooms_20 N S7
    else
      if x2 ≤ (255 : Int32) then
        (zgr S7 x0 7 3).bind fun v9 =>
        (zgr S7 x0 7 2).bind fun v10 =>
        (zal S7 v10 13 (0 : Int32)).bind fun v11 =>
        (zrc S7 v9 1).bind fun u12 =>
        (fX1_makeIn N S7 v9 v11 x1).bind fun S13 =>
        (zgr S13 x0 7 3).bind fun v15 =>
        (zgr S13 x0 7 1).bind fun v16 =>
        (zgr S13 v16 4 5).bind fun v17 =>
        (zil S13 v17 x1).bind fun v18 =>
        (zrc S13 v15 1).bind fun u19 =>
        zb2 (fX1_wordsRead N S13 v15 v18) fun v21 S20 =>
        lX7_rooms_56 N S20 x0 x2 v21 (1 : Int32)
      else
        fX7_rooms_20 N S7
def fX7_rooms (N : Nat) (S : zS) (x0 : Nat) (x1 : Int32) (x2 : Int32) : Option (Int32 × zS) := fX7_rooms_0 N S x0 x1 x2
def fX7_isMaker_15 (N : Nat) (S : zS) (y0 : Int32) : Option (Int32 × zS) :=
  some (y0 &&& 1, S)
def fX7_isMaker_14 (N : Nat) (S : zS) : Option (Int32 × zS) :=
  fX7_isMaker_15 N S (0 : Int32)
def fX7_isMaker_0 (N : Nat) (S : zS) (x0 : Int32) : Option (Int32 × zS) :=
  if x0 < (0 : Int32) then
    fX7_isMaker_14 N S
  else
    if (30 : Int32) ≤ x0 then
      fX7_isMaker_14 N S
    else
      fX7_isMaker_15 N S (1 : Int32)
def fX7_isMaker (N : Nat) (S : zS) (x0 : Int32) : Option (Int32 × zS) := fX7_isMaker_0 N S x0
def fX7_maker_57 (N : Nat) (S : zS) (y0 : Nat) (y1 : Int32) (y2 : Int32) : Option (Int32 × zS) :=
  (zis S y0 y1 y2).bind fun S1 =>
  some ((1 : Int32), S1)
def fX7_maker_29 (N : Nat) (S : zS) (x0 : Nat) (x1 : Int32) (x2 : Int32) (x3 : Int32) : Option (Int32 × zS) :=
  (zgr S x0 7 7).bind fun v2 =>
  (zgr S v2 2 0).bind fun v3 =>
  (zis S v3 x1 x2).bind fun S4 =>
  (zgr S4 x0 7 7).bind fun v5 =>
  (zgr S4 v5 2 1).bind fun v6 =>
  if x2 = (-1 : Int32) then
    fX7_maker_57 N S4 v6 x1 (0 : Int32)
  else
    fX7_maker_57 N S4 v6 x1 x3
def fX7_maker_27 (N : Nat) (S : zS) : Option (Int32 × zS) :=
  some ((-1 : Int32), S)
def fX7_maker_0 (N : Nat) (S : zS) (x0 : Nat) (x1 : Int32) (x2 : Int32) (x3 : Int32) : Option (Int32 × zS) :=
  zb2 (fX7_isMaker N S x1) fun v8 S7 =>
  if v8 = (0 : Int32) then
    fX7_maker_27 N S7
  else
    if x2 = (-1 : Int32) then
      fX7_maker_29 N S7 x0 x1 x2 x3
    else
      zb2 (fX7_isMaker N S7 x2) fun v10 S9 =>
      if v10 = (0 : Int32) then
        fX7_maker_27 N S9
      else
        (zrc S9 x0 7).bind fun u11 =>
        zb2 (fX7_isText N S9 x0 x3) fun v13 S12 =>
        if v13 = (0 : Int32) then
          fX7_maker_27 N S12
        else
          fX7_maker_29 N S12 x0 x1 x2 x3
def fX7_maker (N : Nat) (S : zS) (x0 : Nat) (x1 : Int32) (x2 : Int32) (x3 : Int32) : Option (Int32 × zS) := fX7_maker_0 N S x0 x1 x2 x3
def fX7_down_39 (N : Nat) (S : zS) (y0 : Int32) : Option (Int32 × zS) :=
  some (y0, S)
def fX7_down_0 (N : Nat) (S : zS) (x0 : Nat) (x1 : Int32) : Option (Int32 × zS) :=
  zb2 (fX7_isMaker N S x1) fun v2 S1 =>
  if v2 = (0 : Int32) then
    some ((-1 : Int32), S1)
  else
    (zgr S1 x0 7 7).bind fun v3 =>
    (zrc S1 v3 2).bind fun u4 =>
    zb2 (fX2_ringStart N S1 v3 x1) fun v6 S5 =>
    if v6 = (-1 : Int32) then
      (zgr S5 x0 7 7).bind fun v7 =>
      (zrc S5 v7 2).bind fun u8 =>
      zb2 (fX2_way N S5 v7 x1) fun v10 S9 =>
      zb2 (fJ6_bitCount_0f7a4 N S9 v10) fun v12 S11 =>
      fX7_down_39 N S11 (v12 - (1 : Int32))
    else
      fX7_down_39 N S5 (-5 : Int32)
def fX7_down (N : Nat) (S : zS) (x0 : Nat) (x1 : Int32) : Option (Int32 × zS) := fX7_down_0 N S x0 x1
def fX7_ring_58 (N : Nat) (S : zS) (y0 : Int32) : Option (Int32 × zS) :=
  some (y0, S)
def fX7_ring_57 (N : Nat) (S : zS) : Option (Int32 × zS) :=
  fX7_ring_58 N S (-1 : Int32)
def fX7_ring_0 (N : Nat) (S : zS) (x0 : Nat) (x1 : Int32) (x2 : Int32) : Option (Int32 × zS) :=
  zb2 (fX7_isMaker N S x1) fun v2 S1 =>
  if v2 = (0 : Int32) then
    some ((-1 : Int32), S1)
  else
    (zgr S1 x0 7 7).bind fun v3 =>
    (zrc S1 v3 2).bind fun u4 =>
    zb2 (fX2_ringStart N S1 v3 x1) fun v6 S5 =>
    if v6 = (-1 : Int32) then
      some ((-2 : Int32), S5)
    else
      if x2 < (0 : Int32) then
        fX7_ring_57 N S5
      else
        (zgr S5 x0 7 7).bind fun v7 =>
        (zrc S5 v7 2).bind fun u8 =>
        zb2 (fX2_way N S5 v7 v6) fun v10 S9 =>
        zb2 (fJ6_bitCount_0f7a4 N S9 v10) fun v12 S11 =>
        if v12 ≤ x2 then
          fX7_ring_57 N S11
        else
          (zgr S11 x0 7 7).bind fun v13 =>
          (zrc S11 v13 2).bind fun u14 =>
          zb2 (fX2_after N S11 v13 v6 x2) fun v16 S15 =>
          fX7_ring_58 N S15 v16
def fX7_ring (N : Nat) (S : zS) (x0 : Nat) (x1 : Int32) (x2 : Int32) : Option (Int32 × zS) := fX7_ring_0 N S x0 x1 x2
def fX7_needs_49 (N : Nat) (S : zS) (y0 : Int32) : Option (Int32 × zS) :=
  zb2 (fJ6_bitCount_0f7a4 N S y0) fun v2 S1 =>
  some (v2, S1)
def fX7_needs_14 (N : Nat) (S : zS) : Option (Int32 × zS) :=
  some ((-1 : Int32), S)
def fX7_needs_0 (N : Nat) (S : zS) (x0 : Nat) (x1 : Int32) (x2 : Int32) : Option (Int32 × zS) :=
  zb2 (fX7_isMaker N S x1) fun v4 S3 =>
  if v4 = (0 : Int32) then
    fX7_needs_14 N S3
  else
    zb2 (fX7_isBit N S3 x2) fun v6 S5 =>
    if v6 = (0 : Int32) then
      fX7_needs_14 N S5
    else
      (zgr S5 x0 7 7).bind fun v7 =>
      (zgr S5 x0 7 7).bind fun v8 =>
      (zrc S5 v8 2).bind fun u9 =>
      zb2 (fX2_way N S5 v8 x1) fun v11 S10 =>
      (zrc S10 v7 2).bind fun u12 =>
      zb2 (fX2_textsOn N S10 v7 v11) fun v14 S13 =>
      if x2 = (0 : Int32) then
        fX7_needs_49 N S13 v14
      else
        (zgr S13 x0 7 0).bind fun v15 =>
        (zgi S13 v15 6 3).bind fun v16 =>
        fX7_needs_49 N S13 (v14 &&& v16)
def fX7_needs (N : Nat) (S : zS) (x0 : Nat) (x1 : Int32) (x2 : Int32) : Option (Int32 × zS) := fX7_needs_0 N S x0 x1 x2
def fX7_forge_14 (N : Nat) (S : zS) : Option (Int32 × zS) :=
  some ((-1 : Int32), S)
def fX7_forge_0 (N : Nat) (S : zS) (x0 : Nat) (x1 : Int32) (x2 : Int32) : Option (Int32 × zS) :=
  zb2 (fX7_isMaker N S x1) fun v2 S1 =>
  if v2 = (0 : Int32) then
    fX7_forge_14 N S1
  else
    zb2 (fX7_isBit N S1 x2) fun v4 S3 =>
    if v4 = (0 : Int32) then
      fX7_forge_14 N S3
    else
      (zgr S3 x0 7 7).bind fun v5 =>
      (zgi S3 v5 2 2).bind fun v6 =>
      zlet ((zush v6 x1) &&& (1 : Int32)) fun v7 =>
      (zgr S3 x0 7 7).bind fun v8 =>
      (zgr S3 x0 7 7).bind fun v9 =>
      (zgi S3 v9 2 2).bind fun v10 =>
      zb2 (fX7_withBit N S3 v10 x1 x2) fun v12 S11 =>
      (zpi S11 v8 2 2 v12).bind fun S13 =>
      some (v7, S13)
def fX7_forge (N : Nat) (S : zS) (x0 : Nat) (x1 : Int32) (x2 : Int32) : Option (Int32 × zS) := fX7_forge_0 N S x0 x1 x2
def fX7_trust_33 (N : Nat) (S : zS) (y0 : Int32) : Option (Int32 × zS) :=
  some (y0, S)
def fX7_trust_0 (N : Nat) (S : zS) (x0 : Nat) (x1 : Int32) : Option (Int32 × zS) :=
  zb2 (fX7_isMaker N S x1) fun v2 S1 =>
  if v2 = (0 : Int32) then
    some ((-1 : Int32), S1)
  else
    (zgr S1 x0 7 7).bind fun v3 =>
    (zrc S1 v3 2).bind fun u4 =>
    zb2 (fX2_way N S1 v3 x1) fun v6 S5 =>
    (zgr S5 x0 7 7).bind fun v7 =>
    (zgi S5 v7 2 2).bind fun v8 =>
    if (v6 &&& v8) = (0 : Int32) then
      fX7_trust_33 N S5 (1 : Int32)
    else
      fX7_trust_33 N S5 (0 : Int32)
def fX7_trust (N : Nat) (S : zS) (x0 : Nat) (x1 : Int32) : Option (Int32 × zS) := fX7_trust_0 N S x0 x1
def fX7_heirs_42 (N : Nat) (K13 : zS × Nat × Int32 × Int32 × Int32 → Option (Int32 × zS)) (S : zS) (x0 : Nat) (x1 : Int32) (x2 : Int32) (x3 : Int32) : Option (Int32 × zS) :=
  K13 (S, x0, x1, x2, (x3 + (1 : Int32)))
def fX7_heirs_13 (N : Nat) (K13 : zS × Nat × Int32 × Int32 × Int32 → Option (Int32 × zS)) (S : zS) (x0 : Nat) (x1 : Int32) (x2 : Int32) (x3 : Int32) : Option (Int32 × zS) :=
  if (30 : Int32) ≤ x3 then
    some (x2, S)
  else
    if x3 = x1 then
      fX7_heirs_42 N K13 S x0 x1 x2 x3
    else
      (zgr S x0 7 7).bind fun v1 =>
      (zrc S v1 2).bind fun u2 =>
      zb2 (fX2_way N S v1 x3) fun v4 S3 =>
      if ((zush v4 x1) &&& (1 : Int32)) = (0 : Int32) then
        fX7_heirs_42 N K13 S3 x0 x1 x2 x3
      else
        fX7_heirs_42 N K13 S3 x0 x1 (x2 + (1 : Int32)) x3
def lX7_heirs_13 (N : Nat)  (S : zS) (x0 : Nat) (x1 : Int32) (x2 : Int32) (x3 : Int32) : Option (Int32 × zS) := zloop (fun K y => fX7_heirs_13 N K y.1 y.2.1 y.2.2.1 y.2.2.2.1 y.2.2.2.2) N (S, x0, x1, x2, x3)
def fX7_heirs_0 (N : Nat) (S : zS) (x0 : Nat) (x1 : Int32) : Option (Int32 × zS) :=
  zb2 (fX7_isMaker N S x1) fun v6 S5 =>
  if v6 = (0 : Int32) then
    some ((-1 : Int32), S5)
  else
    lX7_heirs_13 N S5 x0 x1 (0 : Int32) (0 : Int32)
def fX7_heirs (N : Nat) (S : zS) (x0 : Nat) (x1 : Int32) : Option (Int32 × zS) := fX7_heirs_0 N S x0 x1
def fX7_count_0 (N : Nat) (S : zS) (x0 : Nat) (x1 : Int32) : Option (Int32 × zS) :=
  if x1 = (0 : Int32) then
    (zgr S x0 7 0).bind fun v1 =>
    (zgi S v1 6 2).bind fun v2 =>
    some (v2, S)
  else
  if x1 = (1 : Int32) then
    (zgr S x0 7 1).bind fun v3 =>
    (zgi S v3 4 8).bind fun v4 =>
    some (v4, S)
  else
  if x1 = (2 : Int32) then
    (zgr S x0 7 7).bind fun v5 =>
    (zrc S v5 2).bind fun u6 =>
    zb2 (fX2_seeds N S v5) fun v8 S7 =>
    some (v8, S7)
  else
  if x1 = (3 : Int32) then
    (zgr S x0 7 7).bind fun v9 =>
    (zgi S v9 2 2).bind fun v10 =>
    zb2 (fJ6_bitCount_0f7a4 N S v10) fun v12 S11 =>
    some (v12, S11)
  else
  if x1 = (4 : Int32) then
    (zgr S x0 7 0).bind fun v13 =>
    (zgr S v13 6 0).bind fun v14 =>
    (zgi S v14 5 1).bind fun v15 =>
    some (v15, S)
  else
  if x1 = (5 : Int32) then
    (zgr S x0 7 0).bind fun v16 =>
    (zgi S v16 6 3).bind fun v17 =>
    zb2 (fJ6_bitCount_0f7a4 N S v17) fun v19 S18 =>
    some (v19, S18)
  else
  some ((-1 : Int32), S)
def fX7_count (N : Nat) (S : zS) (x0 : Nat) (x1 : Int32) : Option (Int32 × zS) := fX7_count_0 N S x0 x1
