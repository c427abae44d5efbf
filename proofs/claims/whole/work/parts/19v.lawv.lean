/-! one call on both sides, the class on the virtual store -/
def LV0 (N MC MS bc bm : Nat) (a1 a2 a3 a4 : Int32) (Sc Sm : zS) (z : Nat) : Option (zS × zS × Nat) := (zrc Sc bc 7).bind fun _ => zb2 (fX7_feed N Sc bc a1 a2) fun r Sc => (zrc Sm bm 8).bind fun _ => zb2 (fX8_feed N Sm bm a1 a2) fun r2 Sm => if r = r2 then some (Sc, Sm, z) else none
def LV1 (N MC MS bc bm : Nat) (a1 a2 a3 a4 : Int32) (Sc Sm : zS) (z : Nat) : Option (zS × zS × Nat) := (zrc Sc bc 7).bind fun _ => zb2 (fX7_text N Sc bc) fun r Sc => (zrc Sm bm 8).bind fun _ => zb2 (fX8_text N Sm bm) fun r2 Sm => if r = r2 then some (Sc, Sm, z) else none
def LV2 (N MC MS bc bm : Nat) (a1 a2 a3 a4 : Int32) (Sc Sm : zS) (z : Nat) : Option (zS × zS × Nat) := (zrc Sc bc 7).bind fun _ => zb2 (fX7_write N Sc bc a1) fun r Sc => (zrc Sm bm 8).bind fun _ => zb2 (fX8_write N Sm bm a1) fun r2 Sm => if r = r2 then some (Sc, Sm, z) else none
def LV3 (N MC MS bc bm : Nat) (a1 a2 a3 a4 : Int32) (Sc Sm : zS) (z : Nat) : Option (zS × zS × Nat) := (zrc Sc bc 7).bind fun _ => zb2 (fX7_lack N Sc bc a1 a2) fun r Sc => (zrc Sm bm 8).bind fun _ => zb2 (fX8_lack N Sm bm a1 a2) fun r2 Sm => if r = r2 then some (Sc, Sm, z) else none
def LV4 (N MC MS bc bm : Nat) (a1 a2 a3 a4 : Int32) (Sc Sm : zS) (z : Nat) : Option (zS × zS × Nat) := (zrc Sc bc 7).bind fun _ => zb2 (fX7_word N Sc bc a1 a2 a3) fun r Sc => (zrc Sm bm 8).bind fun _ => zb2 (fX8_word N Sm bm a1 a2 a3) fun r2 Sm => if r = r2 then some (Sc, Sm, z) else none
def LV5 (N MC MS bc bm : Nat) (a1 a2 a3 a4 : Int32) (Sc Sm : zS) (z : Nat) : Option (zS × zS × Nat) := (zrc Sc bc 7).bind fun _ => zb2 (fX7_copy N Sc bc a1 a2) fun r Sc => (zrc Sm bm 8).bind fun _ => zb2 (fX8_copy N Sm bm a1 a2) fun r2 Sm => if r = r2 then some (Sc, Sm, z) else none
def LV6 (N MC MS bc bm : Nat) (a1 a2 a3 a4 : Int32) (Sc Sm : zS) (z : Nat) : Option (zS × zS × Nat) := (zrc Sc bc 7).bind fun _ => zb2 (fX7_step N Sc bc a1 a2 a3) fun r Sc => (zrc Sm bm 8).bind fun _ => zb2 (fX8_step N Sm bm a1 a2 a3) fun r2 Sm => if r = r2 then some (Sc, Sm, z) else none
def LV7 (N MC MS bc bm : Nat) (a1 a2 a3 a4 : Int32) (Sc Sm : zS) (z : Nat) : Option (zS × zS × Nat) := (zrc Sc bc 7).bind fun _ => zb2 (fX7_need N Sc bc a1 a2) fun r Sc => (zrc Sm bm 8).bind fun _ => zb2 (fX8_need N Sm bm a1 a2) fun r2 Sm => if r = r2 then some (Sc, Sm, z) else none
def LV8 (N MC MS bc bm : Nat) (a1 a2 a3 a4 : Int32) (Sc Sm : zS) (z : Nat) : Option (zS × zS × Nat) := (zrc Sc bc 7).bind fun _ => zb2 (fX7_made N Sc bc a1 a2) fun r Sc => (zrc Sm bm 8).bind fun _ => zb2 (fX8_made N Sm bm a1 a2) fun r2 Sm => if r = r2 then some (Sc, Sm, z) else none
def LV9 (N MC MS bc bm : Nat) (a1 a2 a3 a4 : Int32) (Sc Sm : zS) (z : Nat) : Option (zS × zS × Nat) := (zrc Sc bc 7).bind fun _ => zb2 (fX7_at N Sc bc a1 a2 a3) fun r Sc => (zrc Sm bm 8).bind fun _ => zb2 (fX8_at N Sm bm a1 a2 a3) fun r2 Sm => if r = r2 then some (Sc, Sm, z) else none
def LV10 (N MC MS bc bm : Nat) (a1 a2 a3 a4 : Int32) (Sc Sm : zS) (z : Nat) : Option (zS × zS × Nat) := (zrc Sc bc 7).bind fun _ => zb2 (fX7_reads N Sc bc a1 a2 a3) fun r Sc => (zrc Sm bm 8).bind fun _ => zb2 (fX8_reads N Sm bm a1 a2 a3) fun r2 Sm => if r = r2 then some (Sc, Sm, z) else none
def LV11 (N MC MS bc bm : Nat) (a1 a2 a3 a4 : Int32) (Sc Sm : zS) (z : Nat) : Option (zS × zS × Nat) := (zrc Sc bc 7).bind fun _ => zb2 (fX7_uses N Sc bc a1 a2) fun r Sc => (zrc Sm bm 8).bind fun _ => zb2 (fX8_uses N Sm bm a1 a2) fun r2 Sm => if r = r2 then some (Sc, Sm, z) else none
def LV12 (N MC MS bc bm : Nat) (a1 a2 a3 a4 : Int32) (Sc Sm : zS) (z : Nat) : Option (zS × zS × Nat) := (zrc Sc bc 7).bind fun _ => zb3 (fX7_orders N MC MS Sc z 0 0 bc a1) fun r Sc z => (zrc Sm bm 8).bind fun _ => zb2 (fX8_orders N Sm bm a1) fun r2 Sm => if r = r2 then some (Sc, Sm, z) else none
def LV13 (N MC MS bc bm : Nat) (a1 a2 a3 a4 : Int32) (Sc Sm : zS) (z : Nat) : Option (zS × zS × Nat) := (zrc Sc bc 7).bind fun _ => zb2 (fX7_built N Sc bc a1) fun r Sc => (zrc Sm bm 8).bind fun _ => zb2 (fX8_built N Sm bm a1) fun r2 Sm => if r = r2 then some (Sc, Sm, z) else none
def LV14 (N MC MS bc bm : Nat) (a1 a2 a3 a4 : Int32) (Sc Sm : zS) (z : Nat) : Option (zS × zS × Nat) := (zrc Sc bc 7).bind fun _ => zb2 (fX7_alike N Sc bc a1 a2 a3) fun r Sc => (zrc Sm bm 8).bind fun _ => zb2 (fX8_alike N Sm bm a1 a2 a3) fun r2 Sm => if r = r2 then some (Sc, Sm, z) else none
def LV15 (N MC MS bc bm : Nat) (a1 a2 a3 a4 : Int32) (Sc Sm : zS) (z : Nat) : Option (zS × zS × Nat) := (zrc Sc bc 7).bind fun _ => zb2 (fX7_changes N Sc bc a1 a2 a3) fun r Sc => (zrc Sm bm 8).bind fun _ => zb2 (fX8_changes N Sm bm a1 a2 a3) fun r2 Sm => if r = r2 then some (Sc, Sm, z) else none
def LV16 (N MC MS bc bm : Nat) (a1 a2 a3 a4 : Int32) (Sc Sm : zS) (z : Nat) : Option (zS × zS × Nat) := (zrc Sc bc 7).bind fun _ => zb2 (fX7_change N Sc bc a1 a2) fun r Sc => (zrc Sm bm 8).bind fun _ => zb2 (fX8_change N Sm bm a1 a2) fun r2 Sm => if r = r2 then some (Sc, Sm, z) else none
def LV17 (N MC MS bc bm : Nat) (a1 a2 a3 a4 : Int32) (Sc Sm : zS) (z : Nat) : Option (zS × zS × Nat) := (zrc Sc bc 7).bind fun _ => zb2 (fX7_cause N Sc bc a1 a2 a3) fun r Sc => (zrc Sm bm 8).bind fun _ => zb2 (fX8_cause N Sm bm a1 a2 a3) fun r2 Sm => if r = r2 then some (Sc, Sm, z) else none
def LV18 (N MC MS bc bm : Nat) (a1 a2 a3 a4 : Int32) (Sc Sm : zS) (z : Nat) : Option (zS × zS × Nat) := (zrc Sc bc 7).bind fun _ => zb2 (fX7_fix N Sc bc a1 a2 a3) fun r Sc => (zrc Sm bm 8).bind fun _ => zb2 (fX8_fix N Sm bm a1 a2 a3) fun r2 Sm => if r = r2 then some (Sc, Sm, z) else none
def LV19 (N MC MS bc bm : Nat) (a1 a2 a3 a4 : Int32) (Sc Sm : zS) (z : Nat) : Option (zS × zS × Nat) := (zrc Sc bc 7).bind fun _ => zb2 (fX7_stable N Sc bc a1 a2 a3 a4) fun r Sc => (zrc Sm bm 8).bind fun _ => zb2 (fX8_stable N Sm bm a1 a2 a3 a4) fun r2 Sm => if r = r2 then some (Sc, Sm, z) else none
def LV20 (N MC MS bc bm : Nat) (a1 a2 a3 a4 : Int32) (Sc Sm : zS) (z : Nat) : Option (zS × zS × Nat) := (zrc Sc bc 7).bind fun _ => zb2 (fX7_breaks N Sc bc a1 a2 a3) fun r Sc => (zrc Sm bm 8).bind fun _ => zb2 (fX8_breaks N Sm bm a1 a2 a3) fun r2 Sm => if r = r2 then some (Sc, Sm, z) else none
def LV21 (N MC MS bc bm : Nat) (a1 a2 a3 a4 : Int32) (Sc Sm : zS) (z : Nat) : Option (zS × zS × Nat) := (zrc Sc bc 7).bind fun _ => zb2 (fX7_rooms N Sc bc a1 a2) fun r Sc => (zrc Sm bm 8).bind fun _ => zb2 (fX8_rooms N Sm bm a1 a2) fun r2 Sm => if r = r2 then some (Sc, Sm, z) else none
def LV22 (N MC MS bc bm : Nat) (a1 a2 a3 a4 : Int32) (Sc Sm : zS) (z : Nat) : Option (zS × zS × Nat) := (zrc Sc bc 7).bind fun _ => zb2 (fX7_maker N Sc bc a1 a2 a3) fun r Sc => (zrc Sm bm 8).bind fun _ => zb2 (fX8_maker N Sm bm a1 a2 a3) fun r2 Sm => if r = r2 then some (Sc, Sm, z) else none
def LV23 (N MC MS bc bm : Nat) (a1 a2 a3 a4 : Int32) (Sc Sm : zS) (z : Nat) : Option (zS × zS × Nat) := (zrc Sc bc 7).bind fun _ => zb2 (fX7_down N Sc bc a1) fun r Sc => (zrc Sm bm 8).bind fun _ => zb2 (fX8_down N Sm bm a1) fun r2 Sm => if r = r2 then some (Sc, Sm, z) else none
def LV24 (N MC MS bc bm : Nat) (a1 a2 a3 a4 : Int32) (Sc Sm : zS) (z : Nat) : Option (zS × zS × Nat) := (zrc Sc bc 7).bind fun _ => zb2 (fX7_ring N Sc bc a1 a2) fun r Sc => (zrc Sm bm 8).bind fun _ => zb2 (fX8_ring N Sm bm a1 a2) fun r2 Sm => if r = r2 then some (Sc, Sm, z) else none
def LV25 (N MC MS bc bm : Nat) (a1 a2 a3 a4 : Int32) (Sc Sm : zS) (z : Nat) : Option (zS × zS × Nat) := (zrc Sc bc 7).bind fun _ => zb2 (fX7_needs N Sc bc a1 a2) fun r Sc => (zrc Sm bm 8).bind fun _ => zb2 (fX8_needs N Sm bm a1 a2) fun r2 Sm => if r = r2 then some (Sc, Sm, z) else none
def LV26 (N MC MS bc bm : Nat) (a1 a2 a3 a4 : Int32) (Sc Sm : zS) (z : Nat) : Option (zS × zS × Nat) := (zrc Sc bc 7).bind fun _ => zb2 (fX7_forge N Sc bc a1 a2) fun r Sc => (zrc Sm bm 8).bind fun _ => zb2 (fX8_forge N Sm bm a1 a2) fun r2 Sm => if r = r2 then some (Sc, Sm, z) else none
def LV27 (N MC MS bc bm : Nat) (a1 a2 a3 a4 : Int32) (Sc Sm : zS) (z : Nat) : Option (zS × zS × Nat) := (zrc Sc bc 7).bind fun _ => zb2 (fX7_trust N Sc bc a1) fun r Sc => (zrc Sm bm 8).bind fun _ => zb2 (fX8_trust N Sm bm a1) fun r2 Sm => if r = r2 then some (Sc, Sm, z) else none
def LV28 (N MC MS bc bm : Nat) (a1 a2 a3 a4 : Int32) (Sc Sm : zS) (z : Nat) : Option (zS × zS × Nat) := (zrc Sc bc 7).bind fun _ => zb2 (fX7_heirs N Sc bc a1) fun r Sc => (zrc Sm bm 8).bind fun _ => zb2 (fX8_heirs N Sm bm a1) fun r2 Sm => if r = r2 then some (Sc, Sm, z) else none
def LV29 (N MC MS bc bm : Nat) (a1 a2 a3 a4 : Int32) (Sc Sm : zS) (z : Nat) : Option (zS × zS × Nat) := (zrc Sc bc 7).bind fun _ => zb2 (fX7_count N Sc bc a1) fun r Sc => (zrc Sm bm 8).bind fun _ => zb2 (fX8_count N Sm bm a1) fun r2 Sm => if r = r2 then some (Sc, Sm, z) else none
def LV (N MC MS bc bm : Nat) (o a1 a2 a3 a4 : Int32) (Sc Sm : zS) (z : Nat) : Option (zS × zS × Nat) :=
  if o = (0 : Int32) then LV0 N MC MS bc bm a1 a2 a3 a4 Sc Sm z else
  if o = (1 : Int32) then LV1 N MC MS bc bm a1 a2 a3 a4 Sc Sm z else
  if o = (2 : Int32) then LV2 N MC MS bc bm a1 a2 a3 a4 Sc Sm z else
  if o = (3 : Int32) then LV3 N MC MS bc bm a1 a2 a3 a4 Sc Sm z else
  if o = (4 : Int32) then LV4 N MC MS bc bm a1 a2 a3 a4 Sc Sm z else
  if o = (5 : Int32) then LV5 N MC MS bc bm a1 a2 a3 a4 Sc Sm z else
  if o = (6 : Int32) then LV6 N MC MS bc bm a1 a2 a3 a4 Sc Sm z else
  if o = (7 : Int32) then LV7 N MC MS bc bm a1 a2 a3 a4 Sc Sm z else
  if o = (8 : Int32) then LV8 N MC MS bc bm a1 a2 a3 a4 Sc Sm z else
  if o = (9 : Int32) then LV9 N MC MS bc bm a1 a2 a3 a4 Sc Sm z else
  if o = (10 : Int32) then LV10 N MC MS bc bm a1 a2 a3 a4 Sc Sm z else
  if o = (11 : Int32) then LV11 N MC MS bc bm a1 a2 a3 a4 Sc Sm z else
  if o = (12 : Int32) then LV12 N MC MS bc bm a1 a2 a3 a4 Sc Sm z else
  if o = (13 : Int32) then LV13 N MC MS bc bm a1 a2 a3 a4 Sc Sm z else
  if o = (14 : Int32) then LV14 N MC MS bc bm a1 a2 a3 a4 Sc Sm z else
  if o = (15 : Int32) then LV15 N MC MS bc bm a1 a2 a3 a4 Sc Sm z else
  if o = (16 : Int32) then LV16 N MC MS bc bm a1 a2 a3 a4 Sc Sm z else
  if o = (17 : Int32) then LV17 N MC MS bc bm a1 a2 a3 a4 Sc Sm z else
  if o = (18 : Int32) then LV18 N MC MS bc bm a1 a2 a3 a4 Sc Sm z else
  if o = (19 : Int32) then LV19 N MC MS bc bm a1 a2 a3 a4 Sc Sm z else
  if o = (20 : Int32) then LV20 N MC MS bc bm a1 a2 a3 a4 Sc Sm z else
  if o = (21 : Int32) then LV21 N MC MS bc bm a1 a2 a3 a4 Sc Sm z else
  if o = (22 : Int32) then LV22 N MC MS bc bm a1 a2 a3 a4 Sc Sm z else
  if o = (23 : Int32) then LV23 N MC MS bc bm a1 a2 a3 a4 Sc Sm z else
  if o = (24 : Int32) then LV24 N MC MS bc bm a1 a2 a3 a4 Sc Sm z else
  if o = (25 : Int32) then LV25 N MC MS bc bm a1 a2 a3 a4 Sc Sm z else
  if o = (26 : Int32) then LV26 N MC MS bc bm a1 a2 a3 a4 Sc Sm z else
  if o = (27 : Int32) then LV27 N MC MS bc bm a1 a2 a3 a4 Sc Sm z else
  if o = (28 : Int32) then LV28 N MC MS bc bm a1 a2 a3 a4 Sc Sm z else
  if o = (29 : Int32) then LV29 N MC MS bc bm a1 a2 a3 a4 Sc Sm z else
  some (Sc, Sm, z)
