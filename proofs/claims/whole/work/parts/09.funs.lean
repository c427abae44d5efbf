def zmn (x y : Int32) : Int32 := if y < x then y else x
def zmx (x y : Int32) : Int32 := if x < y then y else x
/-! functions that may make a row's array: the heap's size goes with the store, and never falls -/
def zgeI {α : Type} (z : Nat) (t : Option (α × zS × Nat)) : Option (α × zS × Nat) := t.bind fun y => if z ≤ y.2.2 then some y else none
def zgeV (z : Nat) (t : Option (zS × Nat)) : Option (zS × Nat) := t.bind fun y => if z ≤ y.2 then some y else none
def zlk (k : Nat) : Option Unit := if k ≤ 200 then some () else none
theorem zgeI_some {α : Type} {z zT : Nat} {t : Option (α × zS × Nat)} {r : α} {T : zS} (h : zgeI z t = some (r, T, zT)) : t = some (r, T, zT) ∧ z ≤ zT := by
  obtain ⟨y, e, h⟩ := zb_some h
  split at h
  · next g =>
    cases h
    exact ⟨e, g⟩
  · cases h
theorem zgeV_some {z zT : Nat} {t : Option (zS × Nat)} {T : zS} (h : zgeV z t = some (T, zT)) : t = some (T, zT) ∧ z ≤ zT := by
  obtain ⟨y, e, h⟩ := zb_some h
  split at h
  · next g =>
    cases h
    exact ⟨e, g⟩
  · cases h
theorem zlk_at {k : Nat} {u : Unit} (h : zlk k = some u) : k ≤ 200 := by
  unfold zlk at h
  split at h
  · assumption
  · cases h
theorem zz_0 {q w z zT MC MS : Nat} (hq : q + zT ≤ MC + z) (hw : w + 200 * zT ≤ MS + 200 * z) (hz : z ≤ zT) : q + 0 ≤ MC ∧ w + 0 ≤ MS := by omega
theorem zz_f {q w z z1 zT MC MS : Nat} (hq : q + zT ≤ MC + z) (hw : w + 200 * zT ≤ MS + 200 * z) (hm : z ≤ z1) (hz : z1 ≤ zT) : q + (z1 - z) ≤ MC ∧ w + 200 * (z1 - z) ≤ MS := by omega
theorem zz_q {q w z z1 zT MC MS : Nat} (hq : q + zT ≤ MC + z) (hw : w + 200 * zT ≤ MS + 200 * z) (hm : z ≤ z1) : (q + (z1 - z)) + zT ≤ MC + z1 ∧ (w + 200 * (z1 - z)) + 200 * zT ≤ MS + 200 * z1 := by omega
theorem zz_b {q w z zT MC MS k : Nat} {u : Unit} (hq : q + zT ≤ MC + z) (hw : w + 200 * zT ≤ MS + 200 * z) (hz : z + 1 ≤ zT) (hk : zlk k = some u) : zbud MC MS q w 1 k = some () := by
  have := zlk_at hk
  exact if_pos (by omega)
theorem zz_n {q w z zT MC MS k : Nat} {u : Unit} (hq : q + zT ≤ MC + z) (hw : w + 200 * zT ≤ MS + 200 * z) (hk : zlk k = some u) : (q + 1) + zT ≤ MC + (z + 1) ∧ (w + k) + 200 * zT ≤ MS + 200 * (z + 1) := by
  have := zlk_at hk
  omega
theorem zz_s {z zT : Nat} (hm : z ≤ zT) : 0 + zT ≤ (zT - z) + z ∧ 0 + 200 * zT ≤ 200 * (zT - z) + 200 * z := by omega
section ZRET
variable {p : Program} {l : Launch} {e : Env} {R : Room} {s : State} {m : MethodId} {args : Array Value} {below : List Frame} {meth : Method} {c : Code} {H : Heap} {locs : List Loc} {q w : Nat} {cc : ByteArray} {pc nL : Nat} {ls : Array Slot} {D : va_G} {cy : Nat → ClassId} {A : Nat → Prop} {own : String} {S : zS} {z MC MS : Nat}
theorem z_iretZ (X : zX D cy p s m meth c cc nL own (some .int)) (hH : zH D cy A S H) (hS0 : zV A z s.heap H locs) {v r : Int32} {S2 : zS} {z2 : Nat} (h : some (v, S, z) = some (r, S2, z2)) (hq : q + z2 ≤ MC + z) (hw : w + 200 * z2 ≤ MS + 200 * z) (hdg : decode cc pc = .ok (.ireturn, 1)) : W p l e R s m args below meth c H locs q w (MQ below (zQ D cy A S2 z2 (some (.int r))) args s MC MS A) (F0 m pc ls [.int v]) := by
  cases h
  exact W.widen (by omega) (by omega) (z_iret X hH hS0 rfl hdg)
theorem z_zretZ (X : zX D cy p s m meth c cc nL own (some .boolean)) (hH : zH D cy A S H) (hS0 : zV A z s.heap H locs) {v r : Int32} {S2 : zS} {z2 : Nat} (h : some (v &&& 1, S, z) = some (r, S2, z2)) (hq : q + z2 ≤ MC + z) (hw : w + 200 * z2 ≤ MS + 200 * z) (hdg : decode cc pc = .ok (.ireturn, 1)) : W p l e R s m args below meth c H locs q w (MQ below (zQ D cy A S2 z2 (some (.int r))) args s MC MS A) (F0 m pc ls [.int v]) := by
  cases h
  exact W.widen (by omega) (by omega) (z_zret X hH hS0 rfl hdg)
theorem z_vretZ (X : zX D cy p s m meth c cc nL own none) (hH : zH D cy A S H) (hS0 : zV A z s.heap H locs) {S2 : zS} {z2 : Nat} (h : some (S, z) = some (S2, z2)) (hq : q + z2 ≤ MC + z) (hw : w + 200 * z2 ≤ MS + 200 * z) (hdg : decode cc pc = .ok (.return_, 1)) : W p l e R s m args below meth c H locs q w (MQ below (zQ D cy A S2 z2 none) args s MC MS A) (F0 m pc ls []) := by
  cases h
  exact W.widen (by omega) (by omega) (z_vret X hH hS0 rfl hdg)
end ZRET
def rX0_init_0 (N MC MS : Nat) (S : zS) (z : Nat) (q : Nat) (w : Nat) (x0 : Nat) : Option (zS × Nat) :=
  (zlg (200 : Int32)).bind fun k1 =>
  (zbud MC MS q w 1 k1).bind fun u2 =>
  zlet (zad S z 9 k1) fun S3 =>
  (zpr S3 x0 0 0 z).bind fun S4 =>
  (zlg (200 : Int32)).bind fun k5 =>
  (zbud MC MS (q + 1) (w + k1) 1 k5).bind fun u6 =>
  zlet (zad S4 (z + 1) 9 k5) fun S7 =>
  (zpr S7 x0 0 1 (z + 1)).bind fun S8 =>
  (zlg (200 : Int32)).bind fun k9 =>
  (zbud MC MS ((q + 1) + 1) ((w + k1) + k5) 1 k9).bind fun u10 =>
  zlet (zad S8 ((z + 1) + 1) 9 k9) fun S11 =>
  (zpr S11 x0 0 2 ((z + 1) + 1)).bind fun S12 =>
  (zlg (2500 : Int32)).bind fun k13 =>
  (zbud MC MS (((q + 1) + 1) + 1) (((w + k1) + k5) + k9) 1 k13).bind fun u14 =>
  zlet (zad S12 (((z + 1) + 1) + 1) 9 k13) fun S15 =>
  (zpr S15 x0 0 3 (((z + 1) + 1) + 1)).bind fun S16 =>
  (zlg (201 : Int32)).bind fun k17 =>
  (zbud MC MS ((((q + 1) + 1) + 1) + 1) ((((w + k1) + k5) + k9) + k13) 1 k17).bind fun u18 =>
  zlet (zad S16 ((((z + 1) + 1) + 1) + 1) 9 k17) fun S19 =>
  (zpr S19 x0 0 4 ((((z + 1) + 1) + 1) + 1)).bind fun S20 =>
  (zlg (201 : Int32)).bind fun k21 =>
  (zbud MC MS (((((q + 1) + 1) + 1) + 1) + 1) (((((w + k1) + k5) + k9) + k13) + k17) 1 k21).bind fun u22 =>
  zlet (zad S20 (((((z + 1) + 1) + 1) + 1) + 1) 9 k21) fun S23 =>
  (zpr S23 x0 0 5 (((((z + 1) + 1) + 1) + 1) + 1)).bind fun S24 =>
  zfin MC MS ((((((q + 1) + 1) + 1) + 1) + 1) + 1) ((((((w + k1) + k5) + k9) + k13) + k17) + k21) (S24, ((((((z + 1) + 1) + 1) + 1) + 1) + 1))
def rX0_init (N MC MS : Nat) (S : zS) (z : Nat) (q : Nat) (w : Nat) (x0 : Nat) : Option (zS × Nat) := rX0_init_0 N MC MS S z q w x0
def rX0_chooseMove_95 (N : Nat) (S : zS) (x0 : Nat) (x1 : Int32) (x2 : Int32) (x7 : Int32) : Option (zS) :=
  zlet ((((x1 * (200 : Int32)) + x2) &&& (15 : Int32)) * (2 : Int32)) fun v1 =>
  (zgr S x0 0 3).bind fun v2 =>
  (zgr S x0 0 3).bind fun v3 =>
  (zil S v3 (((x1 * (200 : Int32)) + x2) >>> ((4 : Int32) &&& 31))).bind fun v4 =>
  (zis S v2 (((x1 * (200 : Int32)) + x2) >>> ((4 : Int32) &&& 31)) ((v4 &&& (((3 : Int32) <<< (v1 &&& 31)) ^^^ (-1 : Int32))) ||| (x7 <<< (v1 &&& 31)))).bind fun S5 =>
  some S5
def rX0_chooseMove_93 (N : Nat) (S : zS) (x0 : Nat) (x1 : Int32) (x2 : Int32) (y0 : Int32) : Option (zS) :=
  rX0_chooseMove_95 N S x0 x1 x2 y0
def rX0_chooseMove_0 (N : Nat) (S : zS) (x0 : Nat) (x1 : Int32) (x2 : Int32) (x3 : Int32) : Option (zS) :=
  (zgr S x0 0 5).bind fun v6 =>
  (zil S v6 (x2 + (1 : Int32))).bind fun v7 =>
  (zgr S x0 0 5).bind fun v8 =>
  (zil S v8 x2).bind fun v9 =>
  (zgr S x0 0 4).bind fun v10 =>
  (zil S v10 (x2 + (1 : Int32))).bind fun v11 =>
  if x3 = (0 : Int32) then
    zlet (zmn v7 (zmn v9 v11)) fun v12 =>
    (zgr S x0 0 4).bind fun v13 =>
    (zis S v13 x2 (v12 + (1 : Int32))).bind fun S14 =>
    if v7 = v12 then
      rX0_chooseMove_93 N S14 x0 x1 x2 (0 : Int32)
    else
      if v9 = v12 then
        rX0_chooseMove_93 N S14 x0 x1 x2 (1 : Int32)
      else
        rX0_chooseMove_93 N S14 x0 x1 x2 (2 : Int32)
  else
    (zgr S x0 0 4).bind fun v15 =>
    (zis S v15 x2 v7).bind fun S16 =>
    rX0_chooseMove_95 N S16 x0 x1 x2 (3 : Int32)
def rX0_chooseMove (N : Nat) (S : zS) (x0 : Nat) (x1 : Int32) (x2 : Int32) (x3 : Int32) : Option (zS) := rX0_chooseMove_0 N S x0 x1 x2 x3
def rX0_chooseMoves_123 (N : Nat) (K40 : zS × Nat × Nat × Nat × Int32 × Int32 → Option (zS)) (K90 : zS × Nat × Nat × Nat × Int32 × Int32 × Int32 → Option (zS)) (S : zS) (x0 : Nat) (x1 : Nat) (x2 : Nat) (x3 : Int32) (x4 : Int32) (x6 : Int32) (y0 : Nat) (y1 : Int32) (y2 : Int32) (y3 : Int32) : Option (zS) :=
  (zrc S y0 0).bind fun u1 =>
  (rX0_chooseMove N S y0 y1 y2 y3).bind fun S2 =>
  K90 (S2, x0, x1, x2, x3, x4, (x6 + (-1 : Int32)))
def rX0_chooseMoves_90 (N : Nat) (K40 : zS × Nat × Nat × Nat × Int32 × Int32 → Option (zS)) (K90 : zS × Nat × Nat × Nat × Int32 × Int32 × Int32 → Option (zS)) (S : zS) (x0 : Nat) (x1 : Nat) (x2 : Nat) (x3 : Int32) (x4 : Int32) (x6 : Int32) : Option (zS) :=
  if x6 < x3 then
    K40 (S, x0, x1, x2, x3, (x4 + (-1 : Int32)))
  else
    (zgr S x1 5 1).bind fun v3 =>
    (zil S v3 x4).bind fun v4 =>
    (zgr S x2 5 1).bind fun v5 =>
    (zil S v5 x6).bind fun v6 =>
    if v4 = v6 then
      rX0_chooseMoves_123 N K40 K90 S x0 x1 x2 x3 x4 x6 x0 x4 x6 (1 : Int32)
    else
      rX0_chooseMoves_123 N K40 K90 S x0 x1 x2 x3 x4 x6 x0 x4 x6 (0 : Int32)
def rlX0_chooseMoves_90 (N : Nat) (K40 : zS × Nat × Nat × Nat × Int32 × Int32 → Option (zS)) (S : zS) (x0 : Nat) (x1 : Nat) (x2 : Nat) (x3 : Int32) (x4 : Int32) (x6 : Int32) : Option (zS) := zloop (fun K y => rX0_chooseMoves_90 N K40 K y.1 y.2.1 y.2.2.1 y.2.2.2.1 y.2.2.2.2.1 y.2.2.2.2.2.1 y.2.2.2.2.2.2) N (S, x0, x1, x2, x3, x4, x6)
def rX0_chooseMoves_40 (N : Nat) (K40 : zS × Nat × Nat × Nat × Int32 × Int32 → Option (zS)) (S : zS) (x0 : Nat) (x1 : Nat) (x2 : Nat) (x3 : Int32) (x4 : Int32) : Option (zS) :=
  if x4 < x3 then
    some S
  else
    (zgr S x0 0 4).bind fun v7 =>
    (zgr S x0 0 5).bind fun v8 =>
    (zpr S x0 0 4 v8).bind fun S9 =>
    (zpr S9 x0 0 5 v7).bind fun S10 =>
    (zgr S10 x0 0 4).bind fun v11 =>
    (zgi S10 x2 5 2).bind fun v12 =>
    (zgi S10 x1 5 2).bind fun v13 =>
    (zis S10 v11 v12 (v13 - x4)).bind fun S14 =>
    (zgi S14 x2 5 2).bind fun v15 =>
    rlX0_chooseMoves_90 N K40 S14 x0 x1 x2 x3 x4 (v15 - (1 : Int32))
def rlX0_chooseMoves_40 (N : Nat)  (S : zS) (x0 : Nat) (x1 : Nat) (x2 : Nat) (x3 : Int32) (x4 : Int32) : Option (zS) := zloop (fun K y => rX0_chooseMoves_40 N K y.1 y.2.1 y.2.2.1 y.2.2.2.1 y.2.2.2.2.1 y.2.2.2.2.2) N (S, x0, x1, x2, x3, x4)
def rX0_chooseMoves_3 (N : Nat) (K3 : zS × Nat × Nat × Nat × Int32 × Int32 → Option (zS)) (S : zS) (x0 : Nat) (x1 : Nat) (x2 : Nat) (x3 : Int32) (x4 : Int32) : Option (zS) :=
  (zgi S x2 5 2).bind fun v16 =>
  if v16 < x4 then
    (zgi S x1 5 2).bind fun v17 =>
    rlX0_chooseMoves_40 N S x0 x1 x2 x3 (v17 - (1 : Int32))
  else
    (zgr S x0 0 4).bind fun v18 =>
    (zgi S x2 5 2).bind fun v19 =>
    (zis S v18 x4 (v19 - x4)).bind fun S20 =>
    K3 (S20, x0, x1, x2, x3, (x4 + (1 : Int32)))
def rlX0_chooseMoves_3 (N : Nat)  (S : zS) (x0 : Nat) (x1 : Nat) (x2 : Nat) (x3 : Int32) (x4 : Int32) : Option (zS) := zloop (fun K y => rX0_chooseMoves_3 N K y.1 y.2.1 y.2.2.1 y.2.2.2.1 y.2.2.2.2.1 y.2.2.2.2.2) N (S, x0, x1, x2, x3, x4)
def rX0_chooseMoves_0 (N : Nat) (S : zS) (x0 : Nat) (x1 : Nat) (x2 : Nat) (x3 : Int32) : Option (zS) :=
  rlX0_chooseMoves_3 N S x0 x1 x2 x3 x3
def rX0_chooseMoves (N : Nat) (S : zS) (x0 : Nat) (x1 : Nat) (x2 : Nat) (x3 : Int32) : Option (zS) := rX0_chooseMoves_0 N S x0 x1 x2 x3
def rX0_moveAt_0 (N : Nat) (S : zS) (x0 : Nat) (x1 : Nat) (x2 : Nat) (x3 : Int32) (x4 : Int32) : Option (Int32 × zS) :=
  (zgi S x1 5 2).bind fun v1 =>
  if x3 < v1 then
    (zgi S x2 5 2).bind fun v2 =>
    if x4 < v2 then
      (zgr S x0 0 3).bind fun v3 =>
      (zil S v3 (((x3 * (200 : Int32)) + x4) >>> ((4 : Int32) &&& 31))).bind fun v4 =>
      some (((zush v4 ((((x3 * (200 : Int32)) + x4) &&& (15 : Int32)) * (2 : Int32))) &&& (3 : Int32)), S)
    else
      some ((1 : Int32), S)
  else
    some ((2 : Int32), S)
def rX0_moveAt (N : Nat) (S : zS) (x0 : Nat) (x1 : Nat) (x2 : Nat) (x3 : Int32) (x4 : Int32) : Option (Int32 × zS) := rX0_moveAt_0 N S x0 x1 x2 x3 x4
def rX0_note_50 (N : Nat) (S : zS) : Option (zS) :=
  some S
def rX0_note_0 (N : Nat) (S : zS) (x0 : Nat) (x1 : Int32) (x2 : Int32) (x3 : Int32) : Option (zS) :=
  (zgi S x0 0 6).bind fun v1 =>
  if (200 : Int32) ≤ v1 then
    rX0_note_50 N S
  else
    (zgr S x0 0 0).bind fun v2 =>
    (zgi S x0 0 6).bind fun v3 =>
    (zis S v2 v3 x1).bind fun S4 =>
    (zgr S4 x0 0 1).bind fun v5 =>
    (zgi S4 x0 0 6).bind fun v6 =>
    (zis S4 v5 v6 x2).bind fun S7 =>
    (zgr S7 x0 0 2).bind fun v8 =>
    (zgi S7 x0 0 6).bind fun v9 =>
    (zis S7 v8 v9 x3).bind fun S10 =>
    (zgi S10 x0 0 6).bind fun v11 =>
    (zpi S10 x0 0 6 (v11 + (1 : Int32))).bind fun S12 =>
    rX0_note_50 N S12
def rX0_note (N : Nat) (S : zS) (x0 : Nat) (x1 : Int32) (x2 : Int32) (x3 : Int32) : Option (zS) := rX0_note_0 N S x0 x1 x2 x3
def rX0_follow_121 (N : Nat) (S : zS) : Option (zS) :=
  some S
def rX0_follow_112 (N : Nat) (K14 : zS × Nat × Nat × Nat × Int32 × Int32 × Int32 → Option (zS)) (S : zS) (x0 : Nat) (x1 : Nat) (x2 : Nat) (x4 : Int32) (x6 : Int32) (y0 : Int32) (y1 : Int32) : Option (zS) :=
  K14 (S, x0, x1, x2, x4, (y0 + y1), (x6 + (1 : Int32)))
def rX0_follow_96 (N : Nat) (K14 : zS × Nat × Nat × Nat × Int32 × Int32 × Int32 → Option (zS)) (S : zS) (x0 : Nat) (x1 : Nat) (x2 : Nat) (x5 : Int32) (x6 : Int32) (x7 : Int32) (y0 : Int32) (y1 : Int32) : Option (zS) :=
  if x7 = (1 : Int32) then
    rX0_follow_112 N K14 S x0 x1 x2 (y0 + y1) x6 x5 (0 : Int32)
  else
    rX0_follow_112 N K14 S x0 x1 x2 (y0 + y1) x6 x5 (1 : Int32)
def rX0_follow_83 (N : Nat) (K14 : zS × Nat × Nat × Nat × Int32 × Int32 × Int32 → Option (zS)) (S : zS) (x0 : Nat) (x1 : Nat) (x2 : Nat) (x4 : Int32) (x5 : Int32) (x6 : Int32) (x7 : Int32) : Option (zS) :=
  if x7 = (2 : Int32) then
    rX0_follow_96 N K14 S x0 x1 x2 x5 x6 x7 x4 (0 : Int32)
  else
    rX0_follow_96 N K14 S x0 x1 x2 x5 x6 x7 x4 (1 : Int32)
def rX0_follow_80 (N : Nat) (K14 : zS × Nat × Nat × Nat × Int32 × Int32 × Int32 → Option (zS)) (S : zS) (x0 : Nat) (x1 : Nat) (x2 : Nat) (x4 : Int32) (x5 : Int32) (x6 : Int32) (x7 : Int32) (y0 : Nat) (y1 : Int32) (y2 : Int32) (y3 : Int32) : Option (zS) :=
  (zrc S y0 0).bind fun u1 =>
  (rX0_note N S y0 y1 y2 y3).bind fun S2 =>
  rX0_follow_83 N K14 S2 x0 x1 x2 x4 x5 x6 x7
def rX0_follow_40 (N : Nat) (K14 : zS × Nat × Nat × Nat × Int32 × Int32 × Int32 → Option (zS)) (S : zS) (x0 : Nat) (x1 : Nat) (x2 : Nat) (x4 : Int32) (x5 : Int32) (x6 : Int32) : Option (zS) :=
  (zrc S x0 0).bind fun u3 =>
  zb2 (rX0_moveAt N S x0 x1 x2 x4 x5) fun v5 S4 =>
  if v5 = (3 : Int32) then
    rX0_follow_83 N K14 S4 x0 x1 x2 x4 x5 x6 v5
  else
    if v5 = (1 : Int32) then
      rX0_follow_80 N K14 S4 x0 x1 x2 x4 x5 x6 v5 x0 v5 x4 (0 : Int32)
    else
      (zgr S4 x2 5 1).bind fun v6 =>
      (zil S4 v6 x5).bind fun v7 =>
      rX0_follow_80 N K14 S4 x0 x1 x2 x4 x5 x6 v5 x0 v5 x4 v7
def rX0_follow_14 (N : Nat) (K14 : zS × Nat × Nat × Nat × Int32 × Int32 × Int32 → Option (zS)) (S : zS) (x0 : Nat) (x1 : Nat) (x2 : Nat) (x4 : Int32) (x5 : Int32) (x6 : Int32) : Option (zS) :=
  if (400 : Int32) ≤ x6 then
    rX0_follow_121 N S
  else
    (zgi S x1 5 2).bind fun v8 =>
    if x4 < v8 then
      rX0_follow_40 N K14 S x0 x1 x2 x4 x5 x6
    else
      (zgi S x2 5 2).bind fun v9 =>
      if v9 ≤ x5 then
        rX0_follow_121 N S
      else
        rX0_follow_40 N K14 S x0 x1 x2 x4 x5 x6
def rlX0_follow_14 (N : Nat)  (S : zS) (x0 : Nat) (x1 : Nat) (x2 : Nat) (x4 : Int32) (x5 : Int32) (x6 : Int32) : Option (zS) := zloop (fun K y => rX0_follow_14 N K y.1 y.2.1 y.2.2.1 y.2.2.2.1 y.2.2.2.2.1 y.2.2.2.2.2.1 y.2.2.2.2.2.2) N (S, x0, x1, x2, x4, x5, x6)
def rX0_follow_0 (N : Nat) (S : zS) (x0 : Nat) (x1 : Nat) (x2 : Nat) (x3 : Int32) : Option (zS) :=
  (zpi S x0 0 6 (0 : Int32)).bind fun S10 =>
  rlX0_follow_14 N S10 x0 x1 x2 x3 x3 (0 : Int32)
def rX0_follow (N : Nat) (S : zS) (x0 : Nat) (x1 : Nat) (x2 : Nat) (x3 : Int32) : Option (zS) := rX0_follow_0 N S x0 x1 x2 x3
def rX0_likeAhead_14 (N : Nat) (K14 : zS × Nat × Nat × Int32 × Int32 → Option (Int32 × zS)) (S : zS) (x0 : Nat) (x1 : Nat) (x2 : Int32) (x3 : Int32) : Option (Int32 × zS) :=
  if x2 ≤ x3 then
    some (x2, S)
  else
    (zgr S x0 5 1).bind fun v1 =>
    (zil S v1 x3).bind fun v2 =>
    (zgr S x1 5 1).bind fun v3 =>
    (zil S v3 x3).bind fun v4 =>
    if v2 = v4 then
      K14 (S, x0, x1, x2, (x3 + (1 : Int32)))
    else
      some (x3, S)
def rlX0_likeAhead_14 (N : Nat)  (S : zS) (x0 : Nat) (x1 : Nat) (x2 : Int32) (x3 : Int32) : Option (Int32 × zS) := zloop (fun K y => rX0_likeAhead_14 N K y.1 y.2.1 y.2.2.1 y.2.2.2.1 y.2.2.2.2) N (S, x0, x1, x2, x3)
def rX0_likeAhead_0 (N : Nat) (S : zS) (x0 : Nat) (x1 : Nat) : Option (Int32 × zS) :=
  (zgi S x0 5 2).bind fun v5 =>
  (zgi S x1 5 2).bind fun v6 =>
  rlX0_likeAhead_14 N S x0 x1 (zmn v5 v6) (0 : Int32)
def rX0_likeAhead (N : Nat) (S : zS) (x0 : Nat) (x1 : Nat) : Option (Int32 × zS) := rX0_likeAhead_0 N S x0 x1
def rX0_lay_0 (N : Nat) (S : zS) (x0 : Nat) (x1 : Nat) (x2 : Nat) : Option (zS) :=
  zb2 (rX0_likeAhead N S x1 x2) fun v2 S1 =>
  (zrc S1 x0 0).bind fun u3 =>
  (rX0_chooseMoves N S1 x0 x1 x2 v2).bind fun S4 =>
  (zrc S4 x0 0).bind fun u5 =>
  (rX0_follow N S4 x0 x1 x2 v2).bind fun S6 =>
  some S6
def rX0_lay (N : Nat) (S : zS) (x0 : Nat) (x1 : Nat) (x2 : Nat) : Option (zS) := rX0_lay_0 N S x0 x1 x2
def rX5_init_0 (N MC MS : Nat) (S : zS) (z : Nat) (q : Nat) (w : Nat) (x0 : Nat) (x1 : Int32) : Option (zS × Nat) :=
  (zlg (0 : Int32)).bind fun k1 =>
  (zbud MC MS q w 1 k1).bind fun u2 =>
  zlet (zad S z 9 k1) fun S3 =>
  (zpr S3 x0 5 1 z).bind fun S4 =>
  (zbud MC MS (q + 1) (w + k1) 0 0).bind fun u5 =>
  (zpi S4 x0 5 0 (zmx x1 (0 : Int32))).bind fun S6 =>
  zfin MC MS (q + 1) (w + k1) (S6, (z + 1))
def rX5_init (N MC MS : Nat) (S : zS) (z : Nat) (q : Nat) (w : Nat) (x0 : Nat) (x1 : Int32) : Option (zS × Nat) := rX5_init_0 N MC MS S z q w x0 x1
def rX1_init_50 (N MC MS : Nat) (K50 : zS × Nat × Nat × Nat × Nat × Int32 → Option (zS × Nat)) (S : zS) (z : Nat) (q : Nat) (w : Nat) (x0 : Nat) (x3 : Int32) : Option (zS × Nat) :=
  if (24 : Int32) ≤ x3 then
    zfin MC MS q w (S, z)
  else
    (zgr S x0 1 3).bind fun v1 =>
    (zbud MC MS q w 1 3).bind fun u2 =>
    zlet (zad S z 5 0) fun S3 =>
    (zbud MC MS (q + 1) (w + 3) 1 0).bind fun u4 =>
    zb2 (rX5_init N 1 0 S3 (z + 1) 0 0 z (200 : Int32)) fun S5 z6 =>
    (zas S5 v1 x3 z).bind fun S7 =>
    K50 (S7, z6, ((q + 1) + 1), ((w + 3) + 0), x0, (x3 + (1 : Int32)))
def rlX1_init_50 (N MC MS : Nat)  (S : zS) (z : Nat) (q : Nat) (w : Nat) (x0 : Nat) (x3 : Int32) : Option (zS × Nat) := zloop (fun K y => rX1_init_50 N MC MS K y.1 y.2.1 y.2.2.1 y.2.2.2.1 y.2.2.2.2.1 y.2.2.2.2.2) N (S, z, q, w, x0, x3)
def rX1_init_0 (N MC MS : Nat) (S : zS) (z : Nat) (q : Nat) (w : Nat) (x0 : Nat) (x1 : Nat) (x2 : Nat) : Option (zS × Nat) :=
  (zlg (8 : Int32)).bind fun k8 =>
  (zbud MC MS q w 1 k8).bind fun u9 =>
  zlet (zad S z 9 k8) fun S10 =>
  (zpr S10 x0 1 2 z).bind fun S11 =>
  (zlg (24 : Int32)).bind fun k12 =>
  (zbud MC MS (q + 1) (w + k8) 1 k12).bind fun u13 =>
  zlet (zad S11 (z + 1) 12 k12) fun S14 =>
  (zpr S14 x0 1 3 (z + 1)).bind fun S15 =>
  (zlg (24 : Int32)).bind fun k16 =>
  (zbud MC MS ((q + 1) + 1) ((w + k8) + k12) 1 k16).bind fun u17 =>
  zlet (zad S15 ((z + 1) + 1) 11 k16) fun S18 =>
  (zpr S18 x0 1 4 ((z + 1) + 1)).bind fun S19 =>
  (zlg (256 : Int32)).bind fun k20 =>
  (zbud MC MS (((q + 1) + 1) + 1) (((w + k8) + k12) + k16) 1 k20).bind fun u21 =>
  zlet (zad S19 (((z + 1) + 1) + 1) 9 k20) fun S22 =>
  (zpr S22 x0 1 5 (((z + 1) + 1) + 1)).bind fun S23 =>
  (zpr S23 x0 1 0 x1).bind fun S24 =>
  (zpr S24 x0 1 1 x2).bind fun S25 =>
  rlX1_init_50 N MC MS S25 ((((z + 1) + 1) + 1) + 1) ((((q + 1) + 1) + 1) + 1) ((((w + k8) + k12) + k16) + k20) x0 (0 : Int32)
def rX1_init (N MC MS : Nat) (S : zS) (z : Nat) (q : Nat) (w : Nat) (x0 : Nat) (x1 : Nat) (x2 : Nat) : Option (zS × Nat) := rX1_init_0 N MC MS S z q w x0 x1 x2
def rX1_open_0 (N : Nat) (S : zS) (x0 : Nat) (x1 : Nat) : Option (zS) :=
  (zgr S x0 1 2).bind fun v1 =>
  (zcp S x1 (0 : Int32) v1 (0 : Int32) (8 : Int32)).bind fun S2 =>
  (zpi S2 x0 1 6 (-1 : Int32)).bind fun S3 =>
  some S3
def rX1_open (N : Nat) (S : zS) (x0 : Nat) (x1 : Nat) : Option (zS) := rX1_open_0 N S x0 x1
def rX4_input_0 (N : Nat) (S : zS) (x0 : Nat) (x1 : Int32) (x2 : Int32) : Option (Int32 × zS) :=
  (zgr S x0 4 3).bind fun v1 =>
  (zil S v1 ((x1 * (4 : Int32)) + x2)).bind fun v2 =>
  some (v2, S)
def rX4_input (N : Nat) (S : zS) (x0 : Nat) (x1 : Int32) (x2 : Int32) : Option (Int32 × zS) := rX4_input_0 N S x0 x1 x2
def rX1_hasGoodInputs_85 (N : Nat) (S : zS) (y0 : Int32) : Option (Int32 × zS) :=
  some (y0 &&& 1, S)
def rX1_hasGoodInputs_62 (N : Nat) (K2 : zS × Nat × Int32 × Int32 → Option (Int32 × zS)) (S : zS) (x0 : Nat) (x1 : Int32) (x2 : Int32) : Option (Int32 × zS) :=
  K2 (S, x0, x1, (x2 + (1 : Int32)))
def rX1_hasGoodInputs_60 (N : Nat) (S : zS) : Option (Int32 × zS) :=
  some ((0 : Int32) &&& 1, S)
def rX1_hasGoodInputs_2 (N : Nat) (K2 : zS × Nat × Int32 × Int32 → Option (Int32 × zS)) (S : zS) (x0 : Nat) (x1 : Int32) (x2 : Int32) : Option (Int32 × zS) :=
  (zgr S x0 1 0).bind fun v1 =>
  (zgr S v1 4 4).bind fun v2 =>
  (zil S v2 x1).bind fun v3 =>
  if v3 ≤ x2 then
    (zgr S x0 1 0).bind fun v4 =>
    (zgr S v4 4 4).bind fun v5 =>
    (zil S v5 x1).bind fun v6 =>
    if v6 ≤ (0 : Int32) then
      rX1_hasGoodInputs_85 N S (0 : Int32)
    else
      rX1_hasGoodInputs_85 N S (1 : Int32)
  else
    (zgr S x0 1 0).bind fun v7 =>
    (zrc S v7 4).bind fun u8 =>
    zb2 (rX4_input N S v7 x1 x2) fun v10 S9 =>
    if (100 : Int32) ≤ v10 then
      (zgr S9 x0 1 4).bind fun v11 =>
      (zzl S9 v11 (v10 - (100 : Int32))).bind fun v12 =>
      if v12 = (0 : Int32) then
        rX1_hasGoodInputs_62 N K2 S9 x0 x1 x2
      else
        rX1_hasGoodInputs_60 N S9
    else
      (zgr S9 x0 1 1).bind fun v13 =>
      (zgi S9 v13 6 3).bind fun v14 =>
      if ((zush v14 v10) &&& (1 : Int32)) = (0 : Int32) then
        rX1_hasGoodInputs_62 N K2 S9 x0 x1 x2
      else
        rX1_hasGoodInputs_60 N S9
def rlX1_hasGoodInputs_2 (N : Nat)  (S : zS) (x0 : Nat) (x1 : Int32) (x2 : Int32) : Option (Int32 × zS) := zloop (fun K y => rX1_hasGoodInputs_2 N K y.1 y.2.1 y.2.2.1 y.2.2.2) N (S, x0, x1, x2)
def rX1_hasGoodInputs_0 (N : Nat) (S : zS) (x0 : Nat) (x1 : Int32) : Option (Int32 × zS) :=
  rlX1_hasGoodInputs_2 N S x0 x1 (0 : Int32)
def rX1_hasGoodInputs (N : Nat) (S : zS) (x0 : Nat) (x1 : Int32) : Option (Int32 × zS) := rX1_hasGoodInputs_0 N S x0 x1
def rX1_inputRow_37 (N : Nat) (S : zS) (y0 : Nat) : Option (Nat × zS) :=
  some (y0, S)
def rX1_inputRow_0 (N : Nat) (S : zS) (x0 : Nat) (x1 : Int32) (x2 : Int32) : Option (Nat × zS) :=
  (zgr S x0 1 0).bind fun v1 =>
  (zrc S v1 4).bind fun u2 =>
  zb2 (rX4_input N S v1 x1 x2) fun v4 S3 =>
  if (100 : Int32) ≤ v4 then
    (zgr S3 x0 1 3).bind fun v5 =>
    (zal S3 v5 12 (v4 - (100 : Int32))).bind fun v6 =>
    rX1_inputRow_37 N S3 v6
  else
    (zgr S3 x0 1 1).bind fun v7 =>
    (zgr S3 v7 6 1).bind fun v8 =>
    (zal S3 v8 12 v4).bind fun v9 =>
    rX1_inputRow_37 N S3 v9
def rX1_inputRow (N : Nat) (S : zS) (x0 : Nat) (x1 : Int32) (x2 : Int32) : Option (Nat × zS) := rX1_inputRow_0 N S x0 x1 x2
def rX5_makeSpaceFor_41 (N : Nat) (S : zS) (z : Nat) : Option (Int32 × zS × Nat) :=
  zgeI z <|
  some ((1 : Int32) &&& 1, S, z)
def rX5_makeSpaceFor_0 (N : Nat) (S : zS) (z : Nat) (x0 : Nat) (x1 : Int32) : Option (Int32 × zS × Nat) :=
  zgeI z <|
  (zgi S x0 5 2).bind fun v1 =>
  (zgi S x0 5 0).bind fun v2 =>
  if (v1 + x1) ≤ v2 then
    if x1 ≤ (0 : Int32) then
      rX5_makeSpaceFor_41 N S z
    else
      (zgr S x0 5 1).bind fun v3 =>
      (zln S v3 9).bind fun v4 =>
      (zgi S x0 5 0).bind fun v5 =>
      if v5 ≤ v4 then
        rX5_makeSpaceFor_41 N S z
      else
        (zgi S x0 5 0).bind fun v6 =>
        (zlg v6).bind fun k7 =>
        (zlk k7).bind fun u8 =>
        zlet (zad S z 9 k7) fun S9 =>
        zgeI (z + 1) <|
        (zpr S9 x0 5 1 z).bind fun S10 =>
        rX5_makeSpaceFor_41 N S10 (z + 1)
  else
    some ((0 : Int32) &&& 1, S, z)
def rX5_makeSpaceFor (N : Nat) (S : zS) (z : Nat) (x0 : Nat) (x1 : Int32) : Option (Int32 × zS × Nat) := rX5_makeSpaceFor_0 N S z x0 x1
def rX5_append_0 (N : Nat) (S : zS) (z : Nat) (x0 : Nat) (x1 : Nat) : Option (Int32 × zS × Nat) :=
  zgeI z <|
  (zgi S x1 5 2).bind fun v1 =>
  (zrc S x0 5).bind fun u2 =>
  zb3 (rX5_makeSpaceFor N S z x0 v1) fun v5 S3 z4 =>
  zgeI z4 <|
  if v5 = (0 : Int32) then
    some ((0 : Int32) &&& 1, S3, z4)
  else
    (zgr S3 x1 5 1).bind fun v6 =>
    (zgr S3 x0 5 1).bind fun v7 =>
    (zgi S3 x0 5 2).bind fun v8 =>
    (zgi S3 x1 5 2).bind fun v9 =>
    (zcp S3 v6 (0 : Int32) v7 v8 v9).bind fun S10 =>
    (zgi S10 x0 5 2).bind fun v11 =>
    (zgi S10 x1 5 2).bind fun v12 =>
    (zpi S10 x0 5 2 (v11 + v12)).bind fun S13 =>
    some ((1 : Int32) &&& 1, S13, z4)
def rX5_append (N : Nat) (S : zS) (z : Nat) (x0 : Nat) (x1 : Nat) : Option (Int32 × zS × Nat) := rX5_append_0 N S z x0 x1
def rX1_join_40 (N : Nat) (K14 : zS × Nat × Nat × Int32 × Nat × Int32 × Int32 × Int32 → Option (Int32 × zS × Nat)) (S : zS) (z : Nat) (x0 : Nat) (x1 : Int32) (x2 : Nat) (x3 : Int32) (x4 : Int32) (x5 : Int32) (y0 : Nat) (y1 : Nat) (y2 : Int32) (y3 : Int32) : Option (Int32 × zS × Nat) :=
  zgeI z <|
  (zrc S y1 1).bind fun u1 =>
  zb2 (rX1_inputRow N S y1 y2 y3) fun v3 S2 =>
  (zrc S2 y0 5).bind fun u4 =>
  zb3 (rX5_append N S2 z y0 v3) fun v7 S5 z6 =>
  zgeI z6 <|
  if v7 = (0 : Int32) then
    some ((0 : Int32) &&& 1, S5, z6)
  else
    K14 (S5, z6, x0, x1, x2, x3, x4, (x5 + (1 : Int32)))
def rX1_join_14 (N : Nat) (K14 : zS × Nat × Nat × Int32 × Nat × Int32 × Int32 × Int32 → Option (Int32 × zS × Nat)) (S : zS) (z : Nat) (x0 : Nat) (x1 : Int32) (x2 : Nat) (x3 : Int32) (x4 : Int32) (x5 : Int32) : Option (Int32 × zS × Nat) :=
  zgeI z <|
  if x4 ≤ x5 then
    some ((1 : Int32) &&& 1, S, z)
  else
    if x3 = (0 : Int32) then
      rX1_join_40 N K14 S z x0 x1 x2 x3 x4 x5 x2 x0 x1 x5
    else
      rX1_join_40 N K14 S z x0 x1 x2 x3 x4 x5 x2 x0 x1 ((x4 - (1 : Int32)) - x5)
def rlX1_join_14 (N : Nat)  (S : zS) (z : Nat) (x0 : Nat) (x1 : Int32) (x2 : Nat) (x3 : Int32) (x4 : Int32) (x5 : Int32) : Option (Int32 × zS × Nat) := zloop (fun K y => rX1_join_14 N K y.1 y.2.1 y.2.2.1 y.2.2.2.1 y.2.2.2.2.1 y.2.2.2.2.2.1 y.2.2.2.2.2.2.1 y.2.2.2.2.2.2.2) N (S, z, x0, x1, x2, x3, x4, x5)
def rX1_join_0 (N : Nat) (S : zS) (z : Nat) (x0 : Nat) (x1 : Int32) (x2 : Nat) (x3 : Int32) : Option (Int32 × zS × Nat) :=
  zgeI z <|
  (zgr S x0 1 0).bind fun v8 =>
  (zgr S v8 4 4).bind fun v9 =>
  (zil S v9 x1).bind fun v10 =>
  rlX1_join_14 N S z x0 x1 x2 x3 v10 (0 : Int32)
def rX1_join (N : Nat) (S : zS) (z : Nat) (x0 : Nat) (x1 : Int32) (x2 : Nat) (x3 : Int32) : Option (Int32 × zS × Nat) := rX1_join_0 N S z x0 x1 x2 x3
def rX1_mask_2 (N : Nat) (K2 : zS × Nat × Int32 × Int32 → Option (zS)) (S : zS) (x0 : Nat) (x1 : Int32) (x2 : Int32) : Option (zS) :=
  (zgi S x0 5 2).bind fun v1 =>
  if v1 ≤ x2 then
    some S
  else
    (zgr S x0 5 1).bind fun v2 =>
    (zil S v2 x2).bind fun v3 =>
    (zis S v2 x2 (v3 ^^^ x1)).bind fun S4 =>
    K2 (S4, x0, x1, (x2 + (1 : Int32)))
def rlX1_mask_2 (N : Nat)  (S : zS) (x0 : Nat) (x1 : Int32) (x2 : Int32) : Option (zS) := zloop (fun K y => rX1_mask_2 N K y.1 y.2.1 y.2.2.1 y.2.2.2) N (S, x0, x1, x2)
def rX1_mask_0 (N : Nat) (S : zS) (x0 : Nat) (x1 : Int32) : Option (zS) :=
  rlX1_mask_2 N S x0 x1 (0 : Int32)
def rX1_mask (N : Nat) (S : zS) (x0 : Nat) (x1 : Int32) : Option (zS) := rX1_mask_0 N S x0 x1
def rX5_put_0 (N : Nat) (S : zS) (z : Nat) (x0 : Nat) (x1 : Int32) : Option (Int32 × zS × Nat) :=
  zgeI z <|
  (zrc S x0 5).bind fun u1 =>
  zb3 (rX5_makeSpaceFor N S z x0 (1 : Int32)) fun v4 S2 z3 =>
  zgeI z3 <|
  if v4 = (0 : Int32) then
    some ((0 : Int32) &&& 1, S2, z3)
  else
    (zgr S2 x0 5 1).bind fun v5 =>
    (zgi S2 x0 5 2).bind fun v6 =>
    (zis S2 v5 v6 x1).bind fun S7 =>
    (zgi S7 x0 5 2).bind fun v8 =>
    (zpi S7 x0 5 2 (v8 + (1 : Int32))).bind fun S9 =>
    some ((1 : Int32) &&& 1, S9, z3)
def rX5_put (N : Nat) (S : zS) (z : Nat) (x0 : Nat) (x1 : Int32) : Option (Int32 × zS × Nat) := rX5_put_0 N S z x0 x1
def rX1_sign_39 (N : Nat) (K39 : zS × Nat × Nat × Int32 × Int32 → Option (zS × Nat)) (S : zS) (z : Nat) (x0 : Nat) (x1 : Int32) (x2 : Int32) : Option (zS × Nat) :=
  zgeV z <|
  if x2 < (0 : Int32) then
    some (S, z)
  else
    (zrc S x0 5).bind fun u1 =>
    zb3 (rX5_put N S z x0 ((zush x1 x2) &&& (255 : Int32))) fun v4 S2 z3 =>
    zgeV z3 <|
    K39 (S2, z3, x0, x1, (x2 + (-8 : Int32)))
def rlX1_sign_39 (N : Nat)  (S : zS) (z : Nat) (x0 : Nat) (x1 : Int32) (x2 : Int32) : Option (zS × Nat) := zloop (fun K y => rX1_sign_39 N K y.1 y.2.1 y.2.2.1 y.2.2.2.1 y.2.2.2.2) N (S, z, x0, x1, x2)
def rX1_sign_5 (N : Nat) (K5 : zS × Nat × Nat × Int32 × Int32 → Option (zS × Nat)) (S : zS) (z : Nat) (x0 : Nat) (x1 : Int32) (x2 : Int32) : Option (zS × Nat) :=
  zgeV z <|
  (zgi S x0 5 2).bind fun v5 =>
  if v5 ≤ x2 then
    (zpi S x0 5 2 (0 : Int32)).bind fun S6 =>
    rlX1_sign_39 N S6 z x0 x1 (24 : Int32)
  else
    (zgr S x0 5 1).bind fun v7 =>
    (zil S v7 x2).bind fun v8 =>
    K5 (S, z, x0, ((x1 ^^^ v8) * (16777619 : Int32)), (x2 + (1 : Int32)))
def rlX1_sign_5 (N : Nat)  (S : zS) (z : Nat) (x0 : Nat) (x1 : Int32) (x2 : Int32) : Option (zS × Nat) := zloop (fun K y => rX1_sign_5 N K y.1 y.2.1 y.2.2.1 y.2.2.2.1 y.2.2.2.2) N (S, z, x0, x1, x2)
def rX1_sign_0 (N : Nat) (S : zS) (z : Nat) (x0 : Nat) : Option (zS × Nat) :=
  zgeV z <|
  rlX1_sign_5 N S z x0 (40503 : Int32) (0 : Int32)
def rX1_sign (N : Nat) (S : zS) (z : Nat) (x0 : Nat) : Option (zS × Nat) := rX1_sign_0 N S z x0
def fJ7_fill_53178_5 (N : Nat) (K5 : zS × Nat × Int32 × Int32 × Int32 → Option (zS)) (S : zS) (x0 : Nat) (x1 : Int32) (x2 : Int32) (x3 : Int32) : Option (zS) :=
  if x3 ≤ x2 then
    some S
  else
    (zis S x0 x2 x1).bind fun S1 =>
    K5 (S1, x0, x1, (x2 + (1 : Int32)), x3)
def lJ7_fill_53178_5 (N : Nat)  (S : zS) (x0 : Nat) (x1 : Int32) (x2 : Int32) (x3 : Int32) : Option (zS) := zloop (fun K y => fJ7_fill_53178_5 N K y.1 y.2.1 y.2.2.1 y.2.2.2.1 y.2.2.2.2) N (S, x0, x1, x2, x3)
def fJ7_fill_53178_0 (N : Nat) (S : zS) (x0 : Nat) (x1 : Int32) : Option (zS) :=
  (zln S x0 9).bind fun v2 =>
  lJ7_fill_53178_5 N S x0 x1 (0 : Int32) v2
def fJ7_fill_53178 (N : Nat) (S : zS) (x0 : Nat) (x1 : Int32) : Option (zS) := fJ7_fill_53178_0 N S x0 x1
def rX1_sort_59 (N : Nat) (K50 : zS × Nat × Nat × Nat × Int32 → Option (zS × Nat)) (K59 : zS × Nat × Nat × Nat × Int32 × Int32 → Option (zS × Nat)) (S : zS) (z : Nat) (x0 : Nat) (x1 : Nat) (x2 : Int32) (x3 : Int32) : Option (zS × Nat) :=
  zgeV z <|
  (zgr S x0 1 5).bind fun v1 =>
  (zil S v1 x2).bind fun v2 =>
  if v2 ≤ x3 then
    K50 (S, z, x0, x1, (x2 + (1 : Int32)))
  else
    (zrc S x1 5).bind fun u3 =>
    zb3 (rX5_put N S z x1 x2) fun v6 S4 z5 =>
    zgeV z5 <|
    K59 (S4, z5, x0, x1, x2, (x3 + (1 : Int32)))
def rlX1_sort_59 (N : Nat) (K50 : zS × Nat × Nat × Nat × Int32 → Option (zS × Nat)) (S : zS) (z : Nat) (x0 : Nat) (x1 : Nat) (x2 : Int32) (x3 : Int32) : Option (zS × Nat) := zloop (fun K y => rX1_sort_59 N K50 K y.1 y.2.1 y.2.2.1 y.2.2.2.1 y.2.2.2.2.1 y.2.2.2.2.2) N (S, z, x0, x1, x2, x3)
def rX1_sort_50 (N : Nat) (K50 : zS × Nat × Nat × Nat × Int32 → Option (zS × Nat)) (S : zS) (z : Nat) (x0 : Nat) (x1 : Nat) (x2 : Int32) : Option (zS × Nat) :=
  zgeV z <|
  if (255 : Int32) < x2 then
    some (S, z)
  else
    rlX1_sort_59 N K50 S z x0 x1 x2 (0 : Int32)
def rlX1_sort_50 (N : Nat)  (S : zS) (z : Nat) (x0 : Nat) (x1 : Nat) (x2 : Int32) : Option (zS × Nat) := zloop (fun K y => rX1_sort_50 N K y.1 y.2.1 y.2.2.1 y.2.2.2.1 y.2.2.2.2) N (S, z, x0, x1, x2)
def rX1_sort_10 (N : Nat) (K10 : zS × Nat × Nat × Nat × Int32 → Option (zS × Nat)) (S : zS) (z : Nat) (x0 : Nat) (x1 : Nat) (x2 : Int32) : Option (zS × Nat) :=
  zgeV z <|
  (zgi S x1 5 2).bind fun v7 =>
  if v7 ≤ x2 then
    (zpi S x1 5 2 (0 : Int32)).bind fun S8 =>
    rlX1_sort_50 N S8 z x0 x1 (0 : Int32)
  else
    (zgr S x0 1 5).bind fun v9 =>
    (zgr S x1 5 1).bind fun v10 =>
    (zil S v10 x2).bind fun v11 =>
    (zil S v9 (v11 &&& (255 : Int32))).bind fun v12 =>
    (zis S v9 (v11 &&& (255 : Int32)) (v12 + (1 : Int32))).bind fun S13 =>
    K10 (S13, z, x0, x1, (x2 + (1 : Int32)))
def rlX1_sort_10 (N : Nat)  (S : zS) (z : Nat) (x0 : Nat) (x1 : Nat) (x2 : Int32) : Option (zS × Nat) := zloop (fun K y => rX1_sort_10 N K y.1 y.2.1 y.2.2.1 y.2.2.2.1 y.2.2.2.2) N (S, z, x0, x1, x2)
def rX1_sort_0 (N : Nat) (S : zS) (z : Nat) (x0 : Nat) (x1 : Nat) : Option (zS × Nat) :=
  zgeV z <|
  (zgr S x0 1 5).bind fun v14 =>
  (fJ7_fill_53178 N S v14 (0 : Int32)).bind fun S15 =>
  rlX1_sort_10 N S15 z x0 x1 (0 : Int32)
def rX1_sort (N : Nat) (S : zS) (z : Nat) (x0 : Nat) (x1 : Nat) : Option (zS × Nat) := rX1_sort_0 N S z x0 x1
def rX1_strip_37 (N : Nat) (K4 : zS × Nat × Int32 × Int32 × Int32 → Option (zS)) (S : zS) (x0 : Nat) (x1 : Int32) (x2 : Int32) (x3 : Int32) : Option (zS) :=
  K4 (S, x0, x1, x2, (x3 + (1 : Int32)))
def rX1_strip_4 (N : Nat) (K4 : zS × Nat × Int32 × Int32 × Int32 → Option (zS)) (S : zS) (x0 : Nat) (x1 : Int32) (x2 : Int32) (x3 : Int32) : Option (zS) :=
  (zgi S x0 5 2).bind fun v1 =>
  if v1 ≤ x3 then
    (zpi S x0 5 2 x2).bind fun S2 =>
    some S2
  else
    (zgr S x0 5 1).bind fun v3 =>
    (zil S v3 x3).bind fun v4 =>
    if v4 = x1 then
      rX1_strip_37 N K4 S x0 x1 x2 x3
    else
      (zgr S x0 5 1).bind fun v5 =>
      (zgr S x0 5 1).bind fun v6 =>
      (zil S v6 x3).bind fun v7 =>
      (zis S v5 x2 v7).bind fun S8 =>
      rX1_strip_37 N K4 S8 x0 x1 (x2 + (1 : Int32)) x3
def rlX1_strip_4 (N : Nat)  (S : zS) (x0 : Nat) (x1 : Int32) (x2 : Int32) (x3 : Int32) : Option (zS) := zloop (fun K y => rX1_strip_4 N K y.1 y.2.1 y.2.2.1 y.2.2.2.1 y.2.2.2.2) N (S, x0, x1, x2, x3)
def rX1_strip_0 (N : Nat) (S : zS) (x0 : Nat) (x1 : Int32) : Option (zS) :=
  rlX1_strip_4 N S x0 x1 (0 : Int32) (0 : Int32)
def rX1_strip (N : Nat) (S : zS) (x0 : Nat) (x1 : Int32) : Option (zS) := rX1_strip_0 N S x0 x1
def rX1_runTool_180 (N : Nat) (S : zS) (z : Nat) : Option (Int32 × zS × Nat) :=
  zgeI z <|
  some ((1 : Int32) &&& 1, S, z)
def rX1_runTool_94 (N : Nat) (S : zS) (z : Nat) (x0 : Nat) (x2 : Nat) (x3 : Int32) (x4 : Int32) (x5 : Int32) (y0 : Nat) (y1 : Int32) (y2 : Nat) (y3 : Int32) : Option (Int32 × zS × Nat) :=
  zgeI z <|
  (zrc S y0 1).bind fun u1 =>
  zb3 (rX1_join N S z y0 y1 y2 y3) fun v4 S2 z3 =>
  zgeI z3 <|
  if v4 = (0 : Int32) then
    some ((0 : Int32) &&& 1, S2, z3)
  else
    if x3 = (1 : Int32) then
      (zrc S2 x2 5).bind fun u5 =>
      zb3 (rX5_put N S2 z3 x2 x5) fun v8 S6 z7 =>
      zgeI z7 <|
      some (v8 &&& 1, S6, z7)
    else
    if x3 = (2 : Int32) then
      rX1_runTool_180 N S2 z3
    else
    if x3 = (3 : Int32) then
      (rX1_strip N S2 x2 x4).bind fun S9 =>
      some ((1 : Int32) &&& 1, S9, z3)
    else
    if x3 = (4 : Int32) then
      (rX1_mask N S2 x2 x4).bind fun S10 =>
      some ((1 : Int32) &&& 1, S10, z3)
    else
    if x3 = (5 : Int32) then
      rX1_runTool_180 N S2 z3
    else
    if x3 = (6 : Int32) then
      (zrc S2 x0 1).bind fun u11 =>
      zb2 (rX1_sort N S2 z3 x0 x2) fun S12 z13 =>
      zgeI z13 <|
      some ((1 : Int32) &&& 1, S12, z13)
    else
    if x3 = (7 : Int32) then
      zb2 (rX1_sign N S2 z3 x2) fun S14 z15 =>
      zgeI z15 <|
      some ((1 : Int32) &&& 1, S14, z15)
    else
    rX1_runTool_180 N S2 z3
def rX1_runTool_93 (N : Nat) (S : zS) (z : Nat) (x0 : Nat) (x2 : Nat) (x3 : Int32) (x4 : Int32) (x5 : Int32) (y0 : Nat) (y1 : Int32) (y2 : Nat) : Option (Int32 × zS × Nat) :=
  zgeI z <|
  rX1_runTool_94 N S z x0 x2 x3 x4 x5 y0 y1 y2 (0 : Int32)
def rX1_runTool_67 (N : Nat) (S : zS) (z : Nat) (y0 : Nat) (y1 : Nat) (y2 : Int32) (y3 : Int32) : Option (Int32 × zS × Nat) :=
  zgeI z <|
  (zrc S y1 1).bind fun u16 =>
  zb2 (rX1_inputRow N S y1 y2 y3) fun v18 S17 =>
  (zrc S17 y0 5).bind fun u19 =>
  zb3 (rX5_append N S17 z y0 v18) fun v22 S20 z21 =>
  zgeI z21 <|
  some (v22 &&& 1, S20, z21)
def rX1_runTool_0 (N : Nat) (S : zS) (z : Nat) (x0 : Nat) (x1 : Int32) (x2 : Nat) : Option (Int32 × zS × Nat) :=
  zgeI z <|
  (zgr S x0 1 0).bind fun v23 =>
  (zgr S v23 4 0).bind fun v24 =>
  (zil S v24 x1).bind fun v25 =>
  (zgr S x0 1 0).bind fun v26 =>
  (zgr S v26 4 1).bind fun v27 =>
  (zil S v27 x1).bind fun v28 =>
  (zgr S x0 1 2).bind fun v29 =>
  (zgr S x0 1 0).bind fun v30 =>
  (zgr S v30 4 2).bind fun v31 =>
  (zil S v31 x1).bind fun v32 =>
  (zil S v29 v32).bind fun v33 =>
  if v25 = (5 : Int32) then
    if v28 ≤ v33 then
      (zgr S x0 1 0).bind fun v34 =>
      (zgr S v34 4 4).bind fun v35 =>
      (zil S v35 x1).bind fun v36 =>
      rX1_runTool_67 N S z x2 x0 x1 (v36 - (1 : Int32))
    else
      rX1_runTool_67 N S z x2 x0 x1 (0 : Int32)
  else
    if v25 = (2 : Int32) then
      if (v33 &&& (1 : Int32)) = (0 : Int32) then
        rX1_runTool_93 N S z x0 x2 v25 v28 v33 x0 x1 x2
      else
        rX1_runTool_94 N S z x0 x2 v25 v28 v33 x0 x1 x2 (1 : Int32)
    else
      rX1_runTool_93 N S z x0 x2 v25 v28 v33 x0 x1 x2
def rX1_runTool (N : Nat) (S : zS) (z : Nat) (x0 : Nat) (x1 : Int32) (x2 : Nat) : Option (Int32 × zS × Nat) := rX1_runTool_0 N S z x0 x1 x2
def rX1_make_69 (N : Nat) (K2 : zS × Nat × Nat × Int32 × Int32 → Option (zS × Nat)) (S : zS) (z : Nat) (x0 : Nat) (x1 : Int32) (x2 : Int32) : Option (zS × Nat) :=
  zgeV z <|
  K2 (S, z, x0, x1, (x2 + (1 : Int32)))
def rX1_make_68 (N : Nat) (K2 : zS × Nat × Nat × Int32 × Int32 → Option (zS × Nat)) (S : zS) (z : Nat) (x0 : Nat) (x1 : Int32) (x2 : Int32) (y0 : Nat) (y1 : Int32) (y2 : Int32) : Option (zS × Nat) :=
  zgeV z <|
  (zzs S y0 y1 y2).bind fun S1 =>
  rX1_make_69 N K2 S1 z x0 x1 x2
def rX1_make_63 (N : Nat) (K2 : zS × Nat × Nat × Int32 × Int32 → Option (zS × Nat)) (S : zS) (z : Nat) (x0 : Nat) (x1 : Int32) (x2 : Int32) (y0 : Nat) (y1 : Int32) : Option (zS × Nat) :=
  zgeV z <|
  rX1_make_68 N K2 S z x0 x1 x2 y0 y1 (1 : Int32)
def rX1_make_2 (N : Nat) (K2 : zS × Nat × Nat × Int32 × Int32 → Option (zS × Nat)) (S : zS) (z : Nat) (x0 : Nat) (x1 : Int32) (x2 : Int32) : Option (zS × Nat) :=
  zgeV z <|
  (zgr S x0 1 0).bind fun v2 =>
  (zgi S v2 4 8).bind fun v3 =>
  if v3 ≤ x2 then
    (zgi S x0 1 6).bind fun v4 =>
    (zpi S x0 1 6 (v4 &&& (x1 ^^^ (-1 : Int32)))).bind fun S5 =>
    some (S5, z)
  else
    (zgi S x0 1 6).bind fun v6 =>
    if ((x1 &&& v6) &&& ((1 : Int32) <<< (x2 &&& 31))) = (0 : Int32) then
      rX1_make_69 N K2 S z x0 x1 x2
    else
      (zgr S x0 1 3).bind fun v7 =>
      (zal S v7 12 x2).bind fun v8 =>
      (zpi S v8 5 2 (0 : Int32)).bind fun S9 =>
      (zgr S9 x0 1 4).bind fun v10 =>
      (zrc S9 x0 1).bind fun u11 =>
      zb2 (rX1_hasGoodInputs N S9 x0 x2) fun v13 S12 =>
      if v13 = (0 : Int32) then
        rX1_make_63 N K2 S12 z x0 x1 x2 v10 x2
      else
        (zgr S12 x0 1 3).bind fun v14 =>
        (zal S12 v14 12 x2).bind fun v15 =>
        (zrc S12 x0 1).bind fun u16 =>
        zb3 (rX1_runTool N S12 z x0 x2 v15) fun v19 S17 z18 =>
        zgeV z18 <|
        if v19 = (0 : Int32) then
          rX1_make_63 N K2 S17 z18 x0 x1 x2 v10 x2
        else
          rX1_make_68 N K2 S17 z18 x0 x1 x2 v10 x2 (0 : Int32)
def rlX1_make_2 (N : Nat)  (S : zS) (z : Nat) (x0 : Nat) (x1 : Int32) (x2 : Int32) : Option (zS × Nat) := zloop (fun K y => rX1_make_2 N K y.1 y.2.1 y.2.2.1 y.2.2.2.1 y.2.2.2.2) N (S, z, x0, x1, x2)
def rX1_make_0 (N : Nat) (S : zS) (z : Nat) (x0 : Nat) (x1 : Int32) : Option (zS × Nat) :=
  zgeV z <|
  rlX1_make_2 N S z x0 x1 (0 : Int32)
def rX1_make (N : Nat) (S : zS) (z : Nat) (x0 : Nat) (x1 : Int32) : Option (zS × Nat) := rX1_make_0 N S z x0 x1
def rX1_makeIn_0 (N : Nat) (S : zS) (z : Nat) (x0 : Nat) (x1 : Nat) (x2 : Int32) : Option (zS × Nat) :=
  zgeV z <|
  (zrc S x0 1).bind fun u1 =>
  (rX1_open N S x0 x1).bind fun S2 =>
  (zgr S2 x0 1 0).bind fun v3 =>
  (zgr S2 v3 4 5).bind fun v4 =>
  (zil S2 v4 x2).bind fun v5 =>
  (zrc S2 x0 1).bind fun u6 =>
  zb2 (rX1_make N S2 z x0 v5) fun S7 z8 =>
  zgeV z8 <|
  some (S7, z8)
def rX1_makeIn (N : Nat) (S : zS) (z : Nat) (x0 : Nat) (x1 : Nat) (x2 : Int32) : Option (zS × Nat) := rX1_makeIn_0 N S z x0 x1 x2
def rX4_stepsReachedBy_31 (N : Nat) (K4 : zS × Nat × Int32 × Int32 × Int32 → Option (Int32 × zS)) (S : zS) (x0 : Nat) (x1 : Int32) (x2 : Int32) (x3 : Int32) : Option (Int32 × zS) :=
  K4 (S, x0, x1, x2, (x3 + (1 : Int32)))
def rX4_stepsReachedBy_4 (N : Nat) (K4 : zS × Nat × Int32 × Int32 × Int32 → Option (Int32 × zS)) (S : zS) (x0 : Nat) (x1 : Int32) (x2 : Int32) (x3 : Int32) : Option (Int32 × zS) :=
  (zgi S x0 4 8).bind fun v1 =>
  if v1 ≤ x3 then
    some (x2, S)
  else
    (zgr S x0 4 7).bind fun v2 =>
    (zil S v2 x3).bind fun v3 =>
    if ((zush v3 x1) &&& (1 : Int32)) = (0 : Int32) then
      rX4_stepsReachedBy_31 N K4 S x0 x1 x2 x3
    else
      zlet (x2 ||| ((1 : Int32) <<< (x3 &&& 31))) fun v4 =>
      rX4_stepsReachedBy_31 N K4 S x0 x1 v4 x3
def rlX4_stepsReachedBy_4 (N : Nat)  (S : zS) (x0 : Nat) (x1 : Int32) (x2 : Int32) (x3 : Int32) : Option (Int32 × zS) := zloop (fun K y => rX4_stepsReachedBy_4 N K y.1 y.2.1 y.2.2.1 y.2.2.2.1 y.2.2.2.2) N (S, x0, x1, x2, x3)
def rX4_stepsReachedBy_0 (N : Nat) (S : zS) (x0 : Nat) (x1 : Int32) : Option (Int32 × zS) :=
  rlX4_stepsReachedBy_4 N S x0 x1 (0 : Int32) (0 : Int32)
def rX4_stepsReachedBy (N : Nat) (S : zS) (x0 : Nat) (x1 : Int32) : Option (Int32 × zS) := rX4_stepsReachedBy_0 N S x0 x1
def rX1_turn_34 (N : Nat) (S : zS) : Option (zS) :=
  some S
def rX1_turn_0 (N : Nat) (S : zS) (x0 : Nat) (x1 : Int32) (x2 : Int32) : Option (zS) :=
  (zgr S x0 1 2).bind fun v1 =>
  (zil S v1 x1).bind fun v2 =>
  if v2 = x2 then
    rX1_turn_34 N S
  else
    (zgr S x0 1 2).bind fun v3 =>
    (zis S v3 x1 x2).bind fun S4 =>
    (zgi S4 x0 1 6).bind fun v5 =>
    (zgr S4 x0 1 0).bind fun v6 =>
    (zrc S4 v6 4).bind fun u7 =>
    zb2 (rX4_stepsReachedBy N S4 v6 x1) fun v9 S8 =>
    (zpi S8 x0 1 6 (v5 ||| v9)).bind fun S10 =>
    rX1_turn_34 N S10
def rX1_turn (N : Nat) (S : zS) (x0 : Nat) (x1 : Int32) (x2 : Int32) : Option (zS) := rX1_turn_0 N S x0 x1 x2
def rX4_ownWord_34 (N : Nat) (S : zS) (y0 : Int32) : Option (Int32 × zS) :=
  some (y0, S)
def rX4_ownWord_22 (N : Nat) (S : zS) (x0 : Nat) (x1 : Int32) : Option (Int32 × zS) :=
  (zgr S x0 4 2).bind fun v1 =>
  (zil S v1 x1).bind fun v2 =>
  rX4_ownWord_34 N S ((1 : Int32) <<< (v2 &&& 31))
def rX4_ownWord_0 (N : Nat) (S : zS) (x0 : Nat) (x1 : Int32) : Option (Int32 × zS) :=
  (zgr S x0 4 0).bind fun v3 =>
  (zil S v3 x1).bind fun v4 =>
  if v4 = (1 : Int32) then
    rX4_ownWord_22 N S x0 x1
  else
    if v4 = (2 : Int32) then
      rX4_ownWord_22 N S x0 x1
    else
      if v4 = (5 : Int32) then
        rX4_ownWord_22 N S x0 x1
      else
        rX4_ownWord_34 N S (0 : Int32)
def rX4_ownWord (N : Nat) (S : zS) (x0 : Nat) (x1 : Int32) : Option (Int32 × zS) := rX4_ownWord_0 N S x0 x1
def rX1_wordsRead_43 (N : Nat) (K4 : zS × Nat × Int32 × Int32 × Int32 → Option (Int32 × zS)) (S : zS) (x0 : Nat) (x1 : Int32) (x2 : Int32) (x3 : Int32) : Option (Int32 × zS) :=
  K4 (S, x0, x1, x2, (x3 + (1 : Int32)))
def rX1_wordsRead_4 (N : Nat) (K4 : zS × Nat × Int32 × Int32 × Int32 → Option (Int32 × zS)) (S : zS) (x0 : Nat) (x1 : Int32) (x2 : Int32) (x3 : Int32) : Option (Int32 × zS) :=
  (zgr S x0 1 0).bind fun v1 =>
  (zgi S v1 4 8).bind fun v2 =>
  if v2 ≤ x3 then
    some (x2, S)
  else
    if ((zush x1 x3) &&& (1 : Int32)) = (0 : Int32) then
      rX1_wordsRead_43 N K4 S x0 x1 x2 x3
    else
      (zgr S x0 1 4).bind fun v3 =>
      (zzl S v3 x3).bind fun v4 =>
      if v4 = (0 : Int32) then
        (zgr S x0 1 0).bind fun v5 =>
        (zrc S v5 4).bind fun u6 =>
        zb2 (rX4_ownWord N S v5 x3) fun v8 S7 =>
        rX1_wordsRead_43 N K4 S7 x0 x1 (x2 ||| v8) x3
      else
        rX1_wordsRead_43 N K4 S x0 x1 x2 x3
def rlX1_wordsRead_4 (N : Nat)  (S : zS) (x0 : Nat) (x1 : Int32) (x2 : Int32) (x3 : Int32) : Option (Int32 × zS) := zloop (fun K y => rX1_wordsRead_4 N K y.1 y.2.1 y.2.2.1 y.2.2.2.1 y.2.2.2.2) N (S, x0, x1, x2, x3)
def rX1_wordsRead_0 (N : Nat) (S : zS) (x0 : Nat) (x1 : Int32) : Option (Int32 × zS) :=
  rlX1_wordsRead_4 N S x0 x1 (0 : Int32) (0 : Int32)
def rX1_wordsRead (N : Nat) (S : zS) (x0 : Nat) (x1 : Int32) : Option (Int32 × zS) := rX1_wordsRead_0 N S x0 x1
def rX2_init_0 (N MC MS : Nat) (S : zS) (z : Nat) (q : Nat) (w : Nat) (x0 : Nat) : Option (zS × Nat) :=
  (zlg (30 : Int32)).bind fun k1 =>
  (zbud MC MS q w 1 k1).bind fun u2 =>
  zlet (zad S z 9 k1) fun S3 =>
  (zpr S3 x0 2 0 z).bind fun S4 =>
  (zlg (30 : Int32)).bind fun k5 =>
  (zbud MC MS (q + 1) (w + k1) 1 k5).bind fun u6 =>
  zlet (zad S4 (z + 1) 9 k5) fun S7 =>
  (zpr S7 x0 2 1 (z + 1)).bind fun S8 =>
  (zgr S8 x0 2 0).bind fun v9 =>
  (zbud MC MS ((q + 1) + 1) ((w + k1) + k5) 0 0).bind fun u10 =>
  (fJ7_fill_53178 N S8 v9 (-1 : Int32)).bind fun S11 =>
  zfin MC MS ((q + 1) + 1) ((w + k1) + k5) (S11, ((z + 1) + 1))
def rX2_init (N MC MS : Nat) (S : zS) (z : Nat) (q : Nat) (w : Nat) (x0 : Nat) : Option (zS × Nat) := rX2_init_0 N MC MS S z q w x0
def rX2_way_46 (N : Nat) (S : zS) (x2 : Int32) : Option (Int32 × zS) :=
  some (x2, S)
def rX2_way_7 (N : Nat) (K7 : zS × Nat × Int32 × Int32 × Int32 → Option (Int32 × zS)) (S : zS) (x0 : Nat) (x2 : Int32) (x3 : Int32) (x4 : Int32) : Option (Int32 × zS) :=
  if (30 : Int32) ≤ x4 then
    rX2_way_46 N S x2
  else
    if x3 = (-1 : Int32) then
      rX2_way_46 N S x2
    else
      if ((zush x2 x3) &&& (1 : Int32)) = (0 : Int32) then
        zlet (x2 ||| ((1 : Int32) <<< (x3 &&& 31))) fun v1 =>
        (zgr S x0 2 0).bind fun v2 =>
        (zil S v2 x3).bind fun v3 =>
        K7 (S, x0, v1, v3, (x4 + (1 : Int32)))
      else
        rX2_way_46 N S x2
def rlX2_way_7 (N : Nat)  (S : zS) (x0 : Nat) (x2 : Int32) (x3 : Int32) (x4 : Int32) : Option (Int32 × zS) := zloop (fun K y => rX2_way_7 N K y.1 y.2.1 y.2.2.1 y.2.2.2.1 y.2.2.2.2) N (S, x0, x2, x3, x4)
def rX2_way_0 (N : Nat) (S : zS) (x0 : Nat) (x1 : Int32) : Option (Int32 × zS) :=
  rlX2_way_7 N S x0 (0 : Int32) x1 (0 : Int32)
def rX2_way (N : Nat) (S : zS) (x0 : Nat) (x1 : Int32) : Option (Int32 × zS) := rX2_way_0 N S x0 x1
def fJ6_bitCount_0f7a4_0 (N : Nat) (S : zS) (x0 : Int32) : Option (Int32 × zS) :=
  zlet (x0 - ((zush x0 (1 : Int32)) &&& (1431655765 : Int32))) fun v1 =>
  zlet ((v1 &&& (858993459 : Int32)) + ((zush v1 (2 : Int32)) &&& (858993459 : Int32))) fun v2 =>
  zlet ((v2 + (zush v2 (4 : Int32))) &&& (252645135 : Int32)) fun v3 =>
  zlet (v3 + (zush v3 (8 : Int32))) fun v4 =>
  zlet (v4 + (zush v4 (16 : Int32))) fun v5 =>
  some ((v5 &&& (63 : Int32)), S)
def fJ6_bitCount_0f7a4 (N : Nat) (S : zS) (x0 : Int32) : Option (Int32 × zS) := fJ6_bitCount_0f7a4_0 N S x0
def rX2_after_29 (N : Nat) (S : zS) (x3 : Int32) : Option (Int32 × zS) :=
  some (x3, S)
def rX2_after_5 (N : Nat) (K5 : zS × Nat × Int32 × Int32 × Int32 → Option (Int32 × zS)) (S : zS) (x0 : Nat) (x2 : Int32) (x3 : Int32) (x4 : Int32) : Option (Int32 × zS) :=
  if x2 ≤ x4 then
    rX2_after_29 N S x3
  else
    if x3 = (-1 : Int32) then
      rX2_after_29 N S x3
    else
      (zgr S x0 2 0).bind fun v1 =>
      (zil S v1 x3).bind fun v2 =>
      K5 (S, x0, x2, v2, (x4 + (1 : Int32)))
def rlX2_after_5 (N : Nat)  (S : zS) (x0 : Nat) (x2 : Int32) (x3 : Int32) (x4 : Int32) : Option (Int32 × zS) := zloop (fun K y => rX2_after_5 N K y.1 y.2.1 y.2.2.1 y.2.2.2.1 y.2.2.2.2) N (S, x0, x2, x3, x4)
def rX2_after_0 (N : Nat) (S : zS) (x0 : Nat) (x1 : Int32) (x2 : Int32) : Option (Int32 × zS) :=
  rlX2_after_5 N S x0 x2 x1 (0 : Int32)
def rX2_after (N : Nat) (S : zS) (x0 : Nat) (x1 : Int32) (x2 : Int32) : Option (Int32 × zS) := rX2_after_0 N S x0 x1 x2
def rX2_ringStart_0 (N : Nat) (S : zS) (x0 : Nat) (x1 : Int32) : Option (Int32 × zS) :=
  (zrc S x0 2).bind fun u1 =>
  zb2 (rX2_way N S x0 x1) fun v3 S2 =>
  zb2 (fJ6_bitCount_0f7a4 N S2 v3) fun v5 S4 =>
  (zrc S4 x0 2).bind fun u6 =>
  zb2 (rX2_after N S4 x0 x1 v5) fun v8 S7 =>
  some (v8, S7)
def rX2_ringStart (N : Nat) (S : zS) (x0 : Nat) (x1 : Int32) : Option (Int32 × zS) := rX2_ringStart_0 N S x0 x1
def rX2_textsOn_39 (N : Nat) (K4 : zS × Nat × Int32 × Int32 × Int32 → Option (Int32 × zS)) (S : zS) (x0 : Nat) (x1 : Int32) (x2 : Int32) (x3 : Int32) : Option (Int32 × zS) :=
  K4 (S, x0, x1, x2, (x3 + (1 : Int32)))
def rX2_textsOn_4 (N : Nat) (K4 : zS × Nat × Int32 × Int32 × Int32 → Option (Int32 × zS)) (S : zS) (x0 : Nat) (x1 : Int32) (x2 : Int32) (x3 : Int32) : Option (Int32 × zS) :=
  if (30 : Int32) ≤ x3 then
    some (x2, S)
  else
    if ((zush x1 x3) &&& (1 : Int32)) = (0 : Int32) then
      rX2_textsOn_39 N K4 S x0 x1 x2 x3
    else
      (zgr S x0 2 0).bind fun v1 =>
      (zil S v1 x3).bind fun v2 =>
      if v2 = (-1 : Int32) then
        rX2_textsOn_39 N K4 S x0 x1 x2 x3
      else
        (zgr S x0 2 1).bind fun v3 =>
        (zil S v3 x3).bind fun v4 =>
        zlet (x2 ||| ((1 : Int32) <<< (v4 &&& 31))) fun v5 =>
        rX2_textsOn_39 N K4 S x0 x1 v5 x3
def rlX2_textsOn_4 (N : Nat)  (S : zS) (x0 : Nat) (x1 : Int32) (x2 : Int32) (x3 : Int32) : Option (Int32 × zS) := zloop (fun K y => rX2_textsOn_4 N K y.1 y.2.1 y.2.2.1 y.2.2.2.1 y.2.2.2.2) N (S, x0, x1, x2, x3)
def rX2_textsOn_0 (N : Nat) (S : zS) (x0 : Nat) (x1 : Int32) : Option (Int32 × zS) :=
  rlX2_textsOn_4 N S x0 x1 (0 : Int32) (0 : Int32)
def rX2_textsOn (N : Nat) (S : zS) (x0 : Nat) (x1 : Int32) : Option (Int32 × zS) := rX2_textsOn_0 N S x0 x1
def rX2_seeds_26 (N : Nat) (K4 : zS × Nat × Int32 × Int32 → Option (Int32 × zS)) (S : zS) (x0 : Nat) (x2 : Int32) (y0 : Int32) (y1 : Int32) : Option (Int32 × zS) :=
  K4 (S, x0, (y0 + y1), (x2 + (1 : Int32)))
def rX2_seeds_4 (N : Nat) (K4 : zS × Nat × Int32 × Int32 → Option (Int32 × zS)) (S : zS) (x0 : Nat) (x1 : Int32) (x2 : Int32) : Option (Int32 × zS) :=
  if (30 : Int32) ≤ x2 then
    some (x1, S)
  else
    (zgr S x0 2 0).bind fun v1 =>
    (zil S v1 x2).bind fun v2 =>
    if v2 = (-1 : Int32) then
      rX2_seeds_26 N K4 S x0 x2 x1 (1 : Int32)
    else
      rX2_seeds_26 N K4 S x0 x2 x1 (0 : Int32)
def rlX2_seeds_4 (N : Nat)  (S : zS) (x0 : Nat) (x1 : Int32) (x2 : Int32) : Option (Int32 × zS) := zloop (fun K y => rX2_seeds_4 N K y.1 y.2.1 y.2.2.1 y.2.2.2) N (S, x0, x1, x2)
def rX2_seeds_0 (N : Nat) (S : zS) (x0 : Nat) : Option (Int32 × zS) :=
  rlX2_seeds_4 N S x0 (0 : Int32) (0 : Int32)
def rX2_seeds (N : Nat) (S : zS) (x0 : Nat) : Option (Int32 × zS) := rX2_seeds_0 N S x0
def rX3_init_0 (N MC MS : Nat) (S : zS) (z : Nat) (q : Nat) (w : Nat) (x0 : Nat) : Option (zS × Nat) :=
  (zlg (1 : Int32)).bind fun k1 =>
  (zbud MC MS q w 1 k1).bind fun u2 =>
  zlet (zad S z 10 k1) fun S3 =>
  (zpr S3 x0 3 0 z).bind fun S4 =>
  (zlg (16 : Int32)).bind fun k5 =>
  (zbud MC MS (q + 1) (w + k1) 1 k5).bind fun u6 =>
  zlet (zad S4 (z + 1) 9 k5) fun S7 =>
  (zpr S7 x0 3 1 (z + 1)).bind fun S8 =>
  (zlg (24 : Int32)).bind fun k9 =>
  (zbud MC MS ((q + 1) + 1) ((w + k1) + k5) 1 k9).bind fun u10 =>
  zlet (zad S8 ((z + 1) + 1) 9 k9) fun S11 =>
  (zpr S11 x0 3 2 ((z + 1) + 1)).bind fun S12 =>
  zfin MC MS (((q + 1) + 1) + 1) (((w + k1) + k5) + k9) (S12, (((z + 1) + 1) + 1))
def rX3_init (N MC MS : Nat) (S : zS) (z : Nat) (q : Nat) (w : Nat) (x0 : Nat) : Option (zS × Nat) := rX3_init_0 N MC MS S z q w x0
def fJ7_fill_d0a16_6 (N : Nat) (K6 : zS × Nat × Int64 × Int32 × Int32 → Option (zS)) (S : zS) (x0 : Nat) (x1 : Int64) (x3 : Int32) (x4 : Int32) : Option (zS) :=
  if x4 ≤ x3 then
    some S
  else
    (zls S x0 x3 x1).bind fun S1 =>
    K6 (S1, x0, x1, (x3 + (1 : Int32)), x4)
def lJ7_fill_d0a16_6 (N : Nat)  (S : zS) (x0 : Nat) (x1 : Int64) (x3 : Int32) (x4 : Int32) : Option (zS) := zloop (fun K y => fJ7_fill_d0a16_6 N K y.1 y.2.1 y.2.2.1 y.2.2.2.1 y.2.2.2.2) N (S, x0, x1, x3, x4)
def fJ7_fill_d0a16_0 (N : Nat) (S : zS) (x0 : Nat) (x1 : Int64) : Option (zS) :=
  (zln S x0 10).bind fun v2 =>
  lJ7_fill_d0a16_6 N S x0 x1 (0 : Int32) v2
def fJ7_fill_d0a16 (N : Nat) (S : zS) (x0 : Nat) (x1 : Int64) : Option (zS) := fJ7_fill_d0a16_0 N S x0 x1
def rX3_doOneMore_47 (N : Nat) (K2 : zS × Nat × Int32 × Int32 × Int32 → Option (zS)) (S : zS) (x0 : Nat) (x1 : Int32) (x2 : Int32) (x3 : Int32) : Option (zS) :=
  K2 (S, x0, x1, x2, (x3 + (1 : Int32)))
def rX3_doOneMore_2 (N : Nat) (K2 : zS × Nat × Int32 × Int32 × Int32 → Option (zS)) (S : zS) (x0 : Nat) (x1 : Int32) (x2 : Int32) (x3 : Int32) : Option (zS) :=
  if x2 ≤ x3 then
    some S
  else
    if ((zush x1 x3) &&& (1 : Int32)) = (0 : Int32) then
      (zgr S x0 3 1).bind fun v1 =>
      (zil S v1 x3).bind fun v2 =>
      if (v2 &&& (x1 ^^^ (-1 : Int32))) = (0 : Int32) then
        (zgr S x0 3 0).bind fun v3 =>
        (zll S v3 (x1 ||| ((1 : Int32) <<< (x3 &&& 31)))).bind fun v4 =>
        (zgr S x0 3 0).bind fun v5 =>
        (zll S v5 x1).bind fun v6 =>
        (zls S v3 (x1 ||| ((1 : Int32) <<< (x3 &&& 31))) (v4 + v6)).bind fun S7 =>
        rX3_doOneMore_47 N K2 S7 x0 x1 x2 x3
      else
        rX3_doOneMore_47 N K2 S x0 x1 x2 x3
    else
      rX3_doOneMore_47 N K2 S x0 x1 x2 x3
def rlX3_doOneMore_2 (N : Nat)  (S : zS) (x0 : Nat) (x1 : Int32) (x2 : Int32) (x3 : Int32) : Option (zS) := zloop (fun K y => rX3_doOneMore_2 N K y.1 y.2.1 y.2.2.1 y.2.2.2.1 y.2.2.2.2) N (S, x0, x1, x2, x3)
def rX3_doOneMore_0 (N : Nat) (S : zS) (x0 : Nat) (x1 : Int32) (x2 : Int32) : Option (zS) :=
  rlX3_doOneMore_2 N S x0 x1 x2 (0 : Int32)
def rX3_doOneMore (N : Nat) (S : zS) (x0 : Nat) (x1 : Int32) (x2 : Int32) : Option (zS) := rX3_doOneMore_0 N S x0 x1 x2
def rX3_numberedInputs_47 (N : Nat) (K5 : zS × Nat × Nat × Int32 × Int32 × Int32 → Option (Int32 × zS)) (S : zS) (x0 : Nat) (x1 : Nat) (x2 : Int32) (x3 : Int32) (x4 : Int32) : Option (Int32 × zS) :=
  K5 (S, x0, x1, x2, x3, (x4 + (1 : Int32)))
def rX3_numberedInputs_5 (N : Nat) (K5 : zS × Nat × Nat × Int32 × Int32 × Int32 → Option (Int32 × zS)) (S : zS) (x0 : Nat) (x1 : Nat) (x2 : Int32) (x3 : Int32) (x4 : Int32) : Option (Int32 × zS) :=
  (zgr S x1 4 4).bind fun v1 =>
  (zil S v1 x2).bind fun v2 =>
  if v2 ≤ x4 then
    some (x3, S)
  else
    (zrc S x1 4).bind fun u3 =>
    zb2 (rX4_input N S x1 x2 x4) fun v5 S4 =>
    if v5 < (100 : Int32) then
      rX3_numberedInputs_47 N K5 S4 x0 x1 x2 x3 x4
    else
      (zgr S4 x0 3 2).bind fun v6 =>
      (zil S4 v6 (v5 - (100 : Int32))).bind fun v7 =>
      zlet (x3 ||| ((1 : Int32) <<< (v7 &&& 31))) fun v8 =>
      rX3_numberedInputs_47 N K5 S4 x0 x1 x2 v8 x4
def rlX3_numberedInputs_5 (N : Nat)  (S : zS) (x0 : Nat) (x1 : Nat) (x2 : Int32) (x3 : Int32) (x4 : Int32) : Option (Int32 × zS) := zloop (fun K y => rX3_numberedInputs_5 N K y.1 y.2.1 y.2.2.1 y.2.2.2.1 y.2.2.2.2.1 y.2.2.2.2.2) N (S, x0, x1, x2, x3, x4)
def rX3_numberedInputs_0 (N : Nat) (S : zS) (x0 : Nat) (x1 : Nat) (x2 : Int32) : Option (Int32 × zS) :=
  rlX3_numberedInputs_5 N S x0 x1 x2 (0 : Int32) (0 : Int32)
def rX3_numberedInputs (N : Nat) (S : zS) (x0 : Nat) (x1 : Nat) (x2 : Int32) : Option (Int32 × zS) := rX3_numberedInputs_0 N S x0 x1 x2
def rX3_numberOthers_55 (N : Nat) (K5 : zS × Nat × Nat × Int32 × Int32 × Int32 → Option (Int32 × zS)) (S : zS) (x0 : Nat) (x1 : Nat) (x2 : Int32) (x3 : Int32) (x4 : Int32) : Option (Int32 × zS) :=
  K5 (S, x0, x1, x2, x3, (x4 + (1 : Int32)))
def rX3_numberOthers_5 (N : Nat) (K5 : zS × Nat × Nat × Int32 × Int32 × Int32 → Option (Int32 × zS)) (S : zS) (x0 : Nat) (x1 : Nat) (x2 : Int32) (x3 : Int32) (x4 : Int32) : Option (Int32 × zS) :=
  if x2 ≤ x4 then
    some (x3, S)
  else
    (zgr S x1 4 5).bind fun v1 =>
    (zil S v1 x2).bind fun v2 =>
    if ((zush v2 x4) &&& (1 : Int32)) = (0 : Int32) then
      rX3_numberOthers_55 N K5 S x0 x1 x2 x3 x4
    else
      if (15 : Int32) ≤ x3 then
        rX3_numberOthers_55 N K5 S x0 x1 x2 x3 x4
      else
        (zgr S x0 3 2).bind fun v3 =>
        (zis S v3 x4 x3).bind fun S4 =>
        (zgr S4 x0 3 1).bind fun v5 =>
        (zrc S4 x0 3).bind fun u6 =>
        zb2 (rX3_numberedInputs N S4 x0 x1 x4) fun v8 S7 =>
        (zis S7 v5 x3 v8).bind fun S9 =>
        rX3_numberOthers_55 N K5 S9 x0 x1 x2 (x3 + (1 : Int32)) x4
def rlX3_numberOthers_5 (N : Nat)  (S : zS) (x0 : Nat) (x1 : Nat) (x2 : Int32) (x3 : Int32) (x4 : Int32) : Option (Int32 × zS) := zloop (fun K y => rX3_numberOthers_5 N K y.1 y.2.1 y.2.2.1 y.2.2.2.1 y.2.2.2.2.1 y.2.2.2.2.2) N (S, x0, x1, x2, x3, x4)
def rX3_numberOthers_0 (N : Nat) (S : zS) (x0 : Nat) (x1 : Nat) (x2 : Int32) : Option (Int32 × zS) :=
  rlX3_numberOthers_5 N S x0 x1 x2 (0 : Int32) (0 : Int32)
def rX3_numberOthers (N : Nat) (S : zS) (x0 : Nat) (x1 : Nat) (x2 : Int32) : Option (Int32 × zS) := rX3_numberOthers_0 N S x0 x1 x2
def rX3_ordersOf_74 (N MC MS : Nat) (K48 : zS × Nat × Nat × Nat × Nat × Int32 × Int32 × Int32 → Option (Int64 × zS × Nat)) (S : zS) (z : Nat) (q : Nat) (w : Nat) (x0 : Nat) (x3 : Int32) (x4 : Int32) (x5 : Int32) : Option (Int64 × zS × Nat) :=
  K48 (S, z, q, w, x0, x3, x4, (x5 + (1 : Int32)))
def rX3_ordersOf_48 (N MC MS : Nat) (K48 : zS × Nat × Nat × Nat × Nat × Int32 × Int32 × Int32 → Option (Int64 × zS × Nat)) (S : zS) (z : Nat) (q : Nat) (w : Nat) (x0 : Nat) (x3 : Int32) (x4 : Int32) (x5 : Int32) : Option (Int64 × zS × Nat) :=
  if x4 ≤ x5 then
    (zgr S x0 3 0).bind fun v1 =>
    (zll S v1 (x4 - (1 : Int32))).bind fun v2 =>
    zfin MC MS q w (v2, S, z)
  else
    (zgr S x0 3 0).bind fun v3 =>
    (zll S v3 x5).bind fun v4 =>
    if (lg_cmp v4 (0 : Int64)) = (0 : Int32) then
      rX3_ordersOf_74 N MC MS K48 S z q w x0 x3 x4 x5
    else
      (zbud MC MS q w 0 0).bind fun u5 =>
      (zrc S x0 3).bind fun u6 =>
      (rX3_doOneMore N S x0 x5 x3).bind fun S7 =>
      rX3_ordersOf_74 N MC MS K48 S7 z q w x0 x3 x4 x5
def rlX3_ordersOf_48 (N MC MS : Nat)  (S : zS) (z : Nat) (q : Nat) (w : Nat) (x0 : Nat) (x3 : Int32) (x4 : Int32) (x5 : Int32) : Option (Int64 × zS × Nat) := zloop (fun K y => rX3_ordersOf_48 N MC MS K y.1 y.2.1 y.2.2.1 y.2.2.2.1 y.2.2.2.2.1 y.2.2.2.2.2.1 y.2.2.2.2.2.2.1 y.2.2.2.2.2.2.2) N (S, z, q, w, x0, x3, x4, x5)
def rX3_ordersOf_30 (N MC MS : Nat) (S : zS) (z : Nat) (q : Nat) (w : Nat) (x0 : Nat) (x3 : Int32) (x4 : Int32) : Option (Int64 × zS × Nat) :=
  (zgr S x0 3 0).bind fun v8 =>
  (zbud MC MS q w 0 0).bind fun u9 =>
  (fJ7_fill_d0a16 N S v8 (0 : Int64)).bind fun S10 =>
  (zgr S10 x0 3 0).bind fun v11 =>
  (zls S10 v11 (0 : Int32) (1 : Int64)).bind fun S12 =>
  rlX3_ordersOf_48 N MC MS S12 z q w x0 x3 x4 (0 : Int32)
def rX3_ordersOf_0 (N MC MS : Nat) (S : zS) (z : Nat) (q : Nat) (w : Nat) (x0 : Nat) (x1 : Nat) (x2 : Int32) : Option (Int64 × zS × Nat) :=
  (zbud MC MS q w 0 0).bind fun u13 =>
  (zrc S x0 3).bind fun u14 =>
  zb2 (rX3_numberOthers N S x0 x1 x2) fun v16 S15 =>
  (zgr S15 x0 3 0).bind fun v17 =>
  (zln S15 v17 10).bind fun v18 =>
  if ((1 : Int32) <<< (v16 &&& 31)) ≤ v18 then
    rX3_ordersOf_30 N MC MS S15 z q w x0 v16 ((1 : Int32) <<< (v16 &&& 31))
  else
    (zlg ((1 : Int32) <<< (v16 &&& 31))).bind fun k19 =>
    (zbud MC MS q w 1 k19).bind fun u20 =>
    zlet (zad S15 z 10 k19) fun S21 =>
    (zpr S21 x0 3 0 z).bind fun S22 =>
    rX3_ordersOf_30 N MC MS S22 (z + 1) (q + 1) (w + k19) x0 v16 ((1 : Int32) <<< (v16 &&& 31))
def rX3_ordersOf (N MC MS : Nat) (S : zS) (z : Nat) (q : Nat) (w : Nat) (x0 : Nat) (x1 : Nat) (x2 : Int32) : Option (Int64 × zS × Nat) := rX3_ordersOf_0 N MC MS S z q w x0 x1 x2
def rX4_init_0 (N MC MS : Nat) (S : zS) (z : Nat) (q : Nat) (w : Nat) (x0 : Nat) : Option (zS × Nat) :=
  (zlg (24 : Int32)).bind fun k1 =>
  (zbud MC MS q w 1 k1).bind fun u2 =>
  zlet (zad S z 9 k1) fun S3 =>
  (zpr S3 x0 4 0 z).bind fun S4 =>
  (zlg (24 : Int32)).bind fun k5 =>
  (zbud MC MS (q + 1) (w + k1) 1 k5).bind fun u6 =>
  zlet (zad S4 (z + 1) 9 k5) fun S7 =>
  (zpr S7 x0 4 1 (z + 1)).bind fun S8 =>
  (zlg (24 : Int32)).bind fun k9 =>
  (zbud MC MS ((q + 1) + 1) ((w + k1) + k5) 1 k9).bind fun u10 =>
  zlet (zad S8 ((z + 1) + 1) 9 k9) fun S11 =>
  (zpr S11 x0 4 2 ((z + 1) + 1)).bind fun S12 =>
  (zlg (96 : Int32)).bind fun k13 =>
  (zbud MC MS (((q + 1) + 1) + 1) (((w + k1) + k5) + k9) 1 k13).bind fun u14 =>
  zlet (zad S12 (((z + 1) + 1) + 1) 9 k13) fun S15 =>
  (zpr S15 x0 4 3 (((z + 1) + 1) + 1)).bind fun S16 =>
  (zlg (24 : Int32)).bind fun k17 =>
  (zbud MC MS ((((q + 1) + 1) + 1) + 1) ((((w + k1) + k5) + k9) + k13) 1 k17).bind fun u18 =>
  zlet (zad S16 ((((z + 1) + 1) + 1) + 1) 9 k17) fun S19 =>
  (zpr S19 x0 4 4 ((((z + 1) + 1) + 1) + 1)).bind fun S20 =>
  (zlg (24 : Int32)).bind fun k21 =>
  (zbud MC MS (((((q + 1) + 1) + 1) + 1) + 1) (((((w + k1) + k5) + k9) + k13) + k17) 1 k21).bind fun u22 =>
  zlet (zad S20 (((((z + 1) + 1) + 1) + 1) + 1) 9 k21) fun S23 =>
  (zpr S23 x0 4 5 (((((z + 1) + 1) + 1) + 1) + 1)).bind fun S24 =>
  (zlg (24 : Int32)).bind fun k25 =>
  (zbud MC MS ((((((q + 1) + 1) + 1) + 1) + 1) + 1) ((((((w + k1) + k5) + k9) + k13) + k17) + k21) 1 k25).bind fun u26 =>
  zlet (zad S24 ((((((z + 1) + 1) + 1) + 1) + 1) + 1) 9 k25) fun S27 =>
  (zpr S27 x0 4 6 ((((((z + 1) + 1) + 1) + 1) + 1) + 1)).bind fun S28 =>
  (zlg (24 : Int32)).bind fun k29 =>
  (zbud MC MS (((((((q + 1) + 1) + 1) + 1) + 1) + 1) + 1) (((((((w + k1) + k5) + k9) + k13) + k17) + k21) + k25) 1 k29).bind fun u30 =>
  zlet (zad S28 (((((((z + 1) + 1) + 1) + 1) + 1) + 1) + 1) 9 k29) fun S31 =>
  (zpr S31 x0 4 7 (((((((z + 1) + 1) + 1) + 1) + 1) + 1) + 1)).bind fun S32 =>
  zfin MC MS ((((((((q + 1) + 1) + 1) + 1) + 1) + 1) + 1) + 1) ((((((((w + k1) + k5) + k9) + k13) + k17) + k21) + k25) + k29) (S32, ((((((((z + 1) + 1) + 1) + 1) + 1) + 1) + 1) + 1))
def rX4_init (N MC MS : Nat) (S : zS) (z : Nat) (q : Nat) (w : Nat) (x0 : Nat) : Option (zS × Nat) := rX4_init_0 N MC MS S z q w x0
def rX4_addStep_0 (N : Nat) (S : zS) (x0 : Nat) (x1 : Int32) (x2 : Int32) (x3 : Int32) : Option (Int32 × zS) :=
  (zgi S x0 4 8).bind fun v1 =>
  (zgr S x0 4 0).bind fun v2 =>
  (zis S v2 v1 x1).bind fun S3 =>
  (zgr S3 x0 4 1).bind fun v4 =>
  (zis S3 v4 v1 x2).bind fun S5 =>
  (zgr S5 x0 4 2).bind fun v6 =>
  (zis S5 v6 v1 x3).bind fun S7 =>
  (zgr S7 x0 4 5).bind fun v8 =>
  (zis S7 v8 v1 ((1 : Int32) <<< (v1 &&& 31))).bind fun S9 =>
  (zgr S9 x0 4 7).bind fun v10 =>
  (zrc S9 x0 4).bind fun u11 =>
  zb2 (rX4_ownWord N S9 x0 v1) fun v13 S12 =>
  (zis S12 v10 v1 v13).bind fun S14 =>
  (zgi S14 x0 4 8).bind fun v15 =>
  (zpi S14 x0 4 8 (v15 + (1 : Int32))).bind fun S16 =>
  some (v1, S16)
def rX4_addStep (N : Nat) (S : zS) (x0 : Nat) (x1 : Int32) (x2 : Int32) (x3 : Int32) : Option (Int32 × zS) := rX4_addStep_0 N S x0 x1 x2 x3
def rX4_addInput_109 (N : Nat) (S : zS) (x0 : Nat) (x1 : Int32) : Option (Int32 × zS) :=
  (zgr S x0 4 4).bind fun v1 =>
  (zil S v1 x1).bind fun v2 =>
  some (v2, S)
def rX4_addInput_0 (N : Nat) (S : zS) (x0 : Nat) (x1 : Int32) (x2 : Int32) : Option (Int32 × zS) :=
  (zgr S x0 4 3).bind fun v3 =>
  (zgr S x0 4 4).bind fun v4 =>
  (zil S v4 x1).bind fun v5 =>
  (zis S v3 ((x1 * (4 : Int32)) + v5) x2).bind fun S6 =>
  (zgr S6 x0 4 4).bind fun v7 =>
  (zil S6 v7 x1).bind fun v8 =>
  (zis S6 v7 x1 (v8 + (1 : Int32))).bind fun S9 =>
  if (100 : Int32) ≤ x2 then
    (zgi S9 x0 4 9).bind fun v10 =>
    (zpi S9 x0 4 9 (v10 ||| ((1 : Int32) <<< ((x2 - (100 : Int32)) &&& 31)))).bind fun S11 =>
    (zgr S11 x0 4 5).bind fun v12 =>
    (zil S11 v12 x1).bind fun v13 =>
    (zgr S11 x0 4 5).bind fun v14 =>
    (zil S11 v14 (x2 - (100 : Int32))).bind fun v15 =>
    (zis S11 v12 x1 (v13 ||| v15)).bind fun S16 =>
    (zgr S16 x0 4 6).bind fun v17 =>
    (zil S16 v17 x1).bind fun v18 =>
    (zgr S16 x0 4 6).bind fun v19 =>
    (zil S16 v19 (x2 - (100 : Int32))).bind fun v20 =>
    (zis S16 v17 x1 (v18 ||| v20)).bind fun S21 =>
    (zgr S21 x0 4 7).bind fun v22 =>
    (zil S21 v22 x1).bind fun v23 =>
    (zgr S21 x0 4 7).bind fun v24 =>
    (zil S21 v24 (x2 - (100 : Int32))).bind fun v25 =>
    (zis S21 v22 x1 (v23 ||| v25)).bind fun S26 =>
    rX4_addInput_109 N S26 x0 x1
  else
    (zgr S9 x0 4 6).bind fun v27 =>
    (zil S9 v27 x1).bind fun v28 =>
    (zis S9 v27 x1 (v28 ||| ((1 : Int32) <<< (x2 &&& 31)))).bind fun S29 =>
    rX4_addInput_109 N S29 x0 x1
def rX4_addInput (N : Nat) (S : zS) (x0 : Nat) (x1 : Int32) (x2 : Int32) : Option (Int32 × zS) := rX4_addInput_0 N S x0 x1 x2
def rX5_isSameAs_15 (N : Nat) (K15 : zS × Nat × Nat × Int32 → Option (Int32 × zS)) (S : zS) (x0 : Nat) (x1 : Nat) (x2 : Int32) : Option (Int32 × zS) :=
  (zgi S x0 5 2).bind fun v1 =>
  if v1 ≤ x2 then
    some ((1 : Int32) &&& 1, S)
  else
    (zgr S x0 5 1).bind fun v2 =>
    (zil S v2 x2).bind fun v3 =>
    (zgr S x1 5 1).bind fun v4 =>
    (zil S v4 x2).bind fun v5 =>
    if v3 = v5 then
      K15 (S, x0, x1, (x2 + (1 : Int32)))
    else
      some ((0 : Int32) &&& 1, S)
def rlX5_isSameAs_15 (N : Nat)  (S : zS) (x0 : Nat) (x1 : Nat) (x2 : Int32) : Option (Int32 × zS) := zloop (fun K y => rX5_isSameAs_15 N K y.1 y.2.1 y.2.2.1 y.2.2.2) N (S, x0, x1, x2)
def rX5_isSameAs_0 (N : Nat) (S : zS) (x0 : Nat) (x1 : Nat) : Option (Int32 × zS) :=
  (zgi S x0 5 2).bind fun v6 =>
  (zgi S x1 5 2).bind fun v7 =>
  if v6 = v7 then
    rlX5_isSameAs_15 N S x0 x1 (0 : Int32)
  else
    some ((0 : Int32) &&& 1, S)
def rX5_isSameAs (N : Nat) (S : zS) (x0 : Nat) (x1 : Nat) : Option (Int32 × zS) := rX5_isSameAs_0 N S x0 x1
def rX6_init_28 (N MC MS : Nat) (K28 : zS × Nat × Nat × Nat × Nat × Int32 → Option (zS × Nat)) (S : zS) (z : Nat) (q : Nat) (w : Nat) (x0 : Nat) (x1 : Int32) : Option (zS × Nat) :=
  if (20 : Int32) ≤ x1 then
    zfin MC MS q w (S, z)
  else
    (zgr S x0 6 1).bind fun v1 =>
    (zbud MC MS q w 1 3).bind fun u2 =>
    zlet (zad S z 5 0) fun S3 =>
    (zbud MC MS (q + 1) (w + 3) 1 0).bind fun u4 =>
    zb2 (rX5_init N 1 0 S3 (z + 1) 0 0 z (60 : Int32)) fun S5 z6 =>
    (zas S5 v1 x1 z).bind fun S7 =>
    K28 (S7, z6, ((q + 1) + 1), ((w + 3) + 0), x0, (x1 + (1 : Int32)))
def rlX6_init_28 (N MC MS : Nat)  (S : zS) (z : Nat) (q : Nat) (w : Nat) (x0 : Nat) (x1 : Int32) : Option (zS × Nat) := zloop (fun K y => rX6_init_28 N MC MS K y.1 y.2.1 y.2.2.1 y.2.2.2.1 y.2.2.2.2.1 y.2.2.2.2.2) N (S, z, q, w, x0, x1)
def rX6_init_0 (N MC MS : Nat) (S : zS) (z : Nat) (q : Nat) (w : Nat) (x0 : Nat) : Option (zS × Nat) :=
  (zbud MC MS q w 1 3).bind fun u8 =>
  zlet (zad S z 5 0) fun S9 =>
  (zbud MC MS (q + 1) (w + 3) 1 0).bind fun u10 =>
  zb2 (rX5_init N 1 0 S9 (z + 1) 0 0 z (60 : Int32)) fun S11 z12 =>
  (zpr S11 x0 6 0 z).bind fun S13 =>
  (zlg (20 : Int32)).bind fun k14 =>
  (zbud MC MS ((q + 1) + 1) ((w + 3) + 0) 1 k14).bind fun u15 =>
  zlet (zad S13 z12 12 k14) fun S16 =>
  (zpr S16 x0 6 1 z12).bind fun S17 =>
  rlX6_init_28 N MC MS S17 (z12 + 1) (((q + 1) + 1) + 1) (((w + 3) + 0) + k14) x0 (0 : Int32)
def rX6_init (N MC MS : Nat) (S : zS) (z : Nat) (q : Nat) (w : Nat) (x0 : Nat) : Option (zS × Nat) := rX6_init_0 N MC MS S z q w x0
def rX6_tapeTo_0 (N : Nat) (S : zS) (z : Nat) (x0 : Nat) (x1 : Int32) : Option (Int32 × zS × Nat) :=
  zgeI z <|
  (zgr S x0 6 1).bind fun v1 =>
  (zal S v1 12 x1).bind fun v2 =>
  (zpi S v2 5 2 (0 : Int32)).bind fun S3 =>
  (zgr S3 x0 6 1).bind fun v4 =>
  (zal S3 v4 12 x1).bind fun v5 =>
  (zgr S3 x0 6 0).bind fun v6 =>
  (zrc S3 v5 5).bind fun u7 =>
  zb3 (rX5_append N S3 z v5 v6) fun v10 S8 z9 =>
  zgeI z9 <|
  (zgr S8 x0 6 0).bind fun v11 =>
  (zpi S8 v11 5 2 (0 : Int32)).bind fun S12 =>
  (zgr S12 x0 6 1).bind fun v13 =>
  (zal S12 v13 12 x1).bind fun v14 =>
  (zgi S12 v14 5 2).bind fun v15 =>
  some (v15, S12, z9)
def rX6_tapeTo (N : Nat) (S : zS) (z : Nat) (x0 : Nat) (x1 : Int32) : Option (Int32 × zS × Nat) := rX6_tapeTo_0 N S z x0 x1
def rX7_init_0 (N MC MS : Nat) (S : zS) (z : Nat) (q : Nat) (w : Nat) (x0 : Nat) : Option (zS × Nat) :=
  (zbud MC MS q w 1 4).bind fun u1 =>
  zlet (zad S z 6 0) fun S2 =>
  (zbud MC MS (q + 1) (w + 4) 43 83).bind fun u3 =>
  zb2 (rX6_init N 43 83 S2 (z + 1) 0 0 z) fun S4 z5 =>
  (zpr S4 x0 7 0 z).bind fun S6 =>
  (zbud MC MS ((q + 1) + 43) ((w + 4) + 83) 1 10).bind fun u7 =>
  zlet (zad S6 z5 4 0) fun S8 =>
  (zbud MC MS (((q + 1) + 43) + 1) (((w + 4) + 83) + 10) 8 264).bind fun u9 =>
  zb2 (rX4_init N 8 264 S8 (z5 + 1) 0 0 z5) fun S10 z11 =>
  (zpr S10 x0 7 1 z5).bind fun S12 =>
  (zbud MC MS ((((q + 1) + 43) + 1) + 8) ((((w + 4) + 83) + 10) + 264) 9 72).bind fun u13 =>
  zlet (zad2 S12 z11 8 8) fun S14 =>
  (zpr S14 x0 7 2 z11).bind fun S15 =>
  (zbud MC MS (((((q + 1) + 43) + 1) + 8) + 9) (((((w + 4) + 83) + 10) + 264) + 72) 1 7).bind fun u16 =>
  zlet (zad S15 (z11 + 9) 1 0) fun S17 =>
  (zgr S17 x0 7 1).bind fun v18 =>
  (zgr S17 x0 7 0).bind fun v19 =>
  (zbud MC MS ((((((q + 1) + 43) + 1) + 8) + 9) + 1) ((((((w + 4) + 83) + 10) + 264) + 72) + 7) 52 384).bind fun u20 =>
  zb2 (rX1_init N 52 384 S17 ((z11 + 9) + 1) 0 0 (z11 + 9) v18 v19) fun S21 z22 =>
  (zpr S21 x0 7 3 (z11 + 9)).bind fun S23 =>
  (zbud MC MS (((((((q + 1) + 43) + 1) + 8) + 9) + 1) + 52) (((((((w + 4) + 83) + 10) + 264) + 72) + 7) + 384) 1 7).bind fun u24 =>
  zlet (zad S23 z22 1 0) fun S25 =>
  (zgr S25 x0 7 1).bind fun v26 =>
  (zgr S25 x0 7 0).bind fun v27 =>
  (zbud MC MS ((((((((q + 1) + 43) + 1) + 8) + 9) + 1) + 52) + 1) ((((((((w + 4) + 83) + 10) + 264) + 72) + 7) + 384) + 7) 52 384).bind fun u28 =>
  zb2 (rX1_init N 52 384 S25 (z22 + 1) 0 0 z22 v26 v27) fun S29 z30 =>
  (zpr S29 x0 7 4 z22).bind fun S31 =>
  (zbud MC MS (((((((((q + 1) + 43) + 1) + 8) + 9) + 1) + 52) + 1) + 52) (((((((((w + 4) + 83) + 10) + 264) + 72) + 7) + 384) + 7) + 384) 1 7).bind fun u32 =>
  zlet (zad S31 z30 0 0) fun S33 =>
  (zbud MC MS ((((((((((q + 1) + 43) + 1) + 8) + 9) + 1) + 52) + 1) + 52) + 1) ((((((((((w + 4) + 83) + 10) + 264) + 72) + 7) + 384) + 7) + 384) + 7) 6 3502).bind fun u34 =>
  zb2 (rX0_init N 6 3502 S33 (z30 + 1) 0 0 z30) fun S35 z36 =>
  (zpr S35 x0 7 5 z30).bind fun S37 =>
  (zbud MC MS (((((((((((q + 1) + 43) + 1) + 8) + 9) + 1) + 52) + 1) + 52) + 1) + 6) (((((((((((w + 4) + 83) + 10) + 264) + 72) + 7) + 384) + 7) + 384) + 7) + 3502) 1 3).bind fun u38 =>
  zlet (zad S37 z36 3 0) fun S39 =>
  (zbud MC MS ((((((((((((q + 1) + 43) + 1) + 8) + 9) + 1) + 52) + 1) + 52) + 1) + 6) + 1) ((((((((((((w + 4) + 83) + 10) + 264) + 72) + 7) + 384) + 7) + 384) + 7) + 3502) + 3) 3 41).bind fun u40 =>
  zb2 (rX3_init N 3 41 S39 (z36 + 1) 0 0 z36) fun S41 z42 =>
  (zpr S41 x0 7 6 z36).bind fun S43 =>
  (zbud MC MS (((((((((((((q + 1) + 43) + 1) + 8) + 9) + 1) + 52) + 1) + 52) + 1) + 6) + 1) + 3) (((((((((((((w + 4) + 83) + 10) + 264) + 72) + 7) + 384) + 7) + 384) + 7) + 3502) + 3) + 41) 1 3).bind fun u44 =>
  zlet (zad S43 z42 2 0) fun S45 =>
  (zbud MC MS ((((((((((((((q + 1) + 43) + 1) + 8) + 9) + 1) + 52) + 1) + 52) + 1) + 6) + 1) + 3) + 1) ((((((((((((((w + 4) + 83) + 10) + 264) + 72) + 7) + 384) + 7) + 384) + 7) + 3502) + 3) + 41) + 3) 2 60).bind fun u46 =>
  zb2 (rX2_init N 2 60 S45 (z42 + 1) 0 0 z42) fun S47 z48 =>
  (zpr S47 x0 7 7 z42).bind fun S49 =>
  zfin MC MS (((((((((((((((q + 1) + 43) + 1) + 8) + 9) + 1) + 52) + 1) + 52) + 1) + 6) + 1) + 3) + 1) + 2) (((((((((((((((w + 4) + 83) + 10) + 264) + 72) + 7) + 384) + 7) + 384) + 7) + 3502) + 3) + 41) + 3) + 60) (S49, z48)
def rX7_init (N MC MS : Nat) (S : zS) (z : Nat) (q : Nat) (w : Nat) (x0 : Nat) : Option (zS × Nat) := rX7_init_0 N MC MS S z q w x0
def rX7_feed_37 (N : Nat) (K37 : zS × Nat × Int32 × Int32 × Nat × Int32 → Option (Int32 × zS × Nat)) (S : zS) (z : Nat) (x1 : Int32) (x2 : Int32) (x3 : Nat) (x4 : Int32) : Option (Int32 × zS × Nat) :=
  zgeI z <|
  if x1 ≤ x4 then
    (zgi S x3 5 2).bind fun v1 =>
    some (v1, S, z)
  else
    (zrc S x3 5).bind fun u2 =>
    zb3 (rX5_put N S z x3 ((zush x2 ((8 : Int32) * x4)) &&& (255 : Int32))) fun v5 S3 z4 =>
    zgeI z4 <|
    K37 (S3, z4, x1, x2, x3, (x4 + (1 : Int32)))
def rlX7_feed_37 (N : Nat)  (S : zS) (z : Nat) (x1 : Int32) (x2 : Int32) (x3 : Nat) (x4 : Int32) : Option (Int32 × zS × Nat) := zloop (fun K y => rX7_feed_37 N K y.1 y.2.1 y.2.2.1 y.2.2.2.1 y.2.2.2.2.1 y.2.2.2.2.2) N (S, z, x1, x2, x3, x4)
def rX7_feed_10 (N : Nat) (S : zS) (z : Nat) : Option (Int32 × zS × Nat) :=
  zgeI z <|
  some ((-1 : Int32), S, z)
def rX7_feed_0 (N : Nat) (S : zS) (z : Nat) (x0 : Nat) (x1 : Int32) (x2 : Int32) : Option (Int32 × zS × Nat) :=
  zgeI z <|
  if x1 < (1 : Int32) then
    rX7_feed_10 N S z
  else
    if x1 ≤ (4 : Int32) then
      (zgr S x0 7 0).bind fun v6 =>
      (zgr S v6 6 0).bind fun v7 =>
      (zgi S v7 5 2).bind fun v8 =>
      if (v8 + x1) ≤ (60 : Int32) then
        rlX7_feed_37 N S z x1 x2 v7 (0 : Int32)
      else
        some ((-3 : Int32), S, z)
    else
      rX7_feed_10 N S z
def rX7_feed (N : Nat) (S : zS) (z : Nat) (x0 : Nat) (x1 : Int32) (x2 : Int32) : Option (Int32 × zS × Nat) := rX7_feed_0 N S z x0 x1 x2
def rX7_text_0 (N : Nat) (S : zS) (z : Nat) (x0 : Nat) : Option (Int32 × zS × Nat) :=
  zgeI z <|
  (zgr S x0 7 0).bind fun v1 =>
  (zgi S v1 6 2).bind fun v2 =>
  if v2 < (20 : Int32) then
    (zgr S x0 7 0).bind fun v3 =>
    (zgr S x0 7 0).bind fun v4 =>
    (zgi S v4 6 2).bind fun v5 =>
    (zrc S v3 6).bind fun u6 =>
    zb3 (rX6_tapeTo N S z v3 v5) fun v9 S7 z8 =>
    zgeI z8 <|
    (zgr S7 x0 7 0).bind fun v10 =>
    (zgi S7 v10 6 2).bind fun v11 =>
    (zpi S7 v10 6 2 (v11 + (1 : Int32))).bind fun S12 =>
    (zgr S12 x0 7 0).bind fun v13 =>
    (zgi S12 v13 6 2).bind fun v14 =>
    some ((v14 - (1 : Int32)), S12, z8)
  else
    some ((-3 : Int32), S, z)
def rX7_text (N : Nat) (S : zS) (z : Nat) (x0 : Nat) : Option (Int32 × zS × Nat) := rX7_text_0 N S z x0
def rX7_isText_20 (N : Nat) (S : zS) (y0 : Int32) : Option (Int32 × zS) :=
  some (y0 &&& 1, S)
def rX7_isText_19 (N : Nat) (S : zS) : Option (Int32 × zS) :=
  rX7_isText_20 N S (0 : Int32)
def rX7_isText_0 (N : Nat) (S : zS) (x0 : Nat) (x1 : Int32) : Option (Int32 × zS) :=
  if x1 < (0 : Int32) then
    rX7_isText_19 N S
  else
    (zgr S x0 7 0).bind fun v1 =>
    (zgi S v1 6 2).bind fun v2 =>
    if v2 ≤ x1 then
      rX7_isText_19 N S
    else
      rX7_isText_20 N S (1 : Int32)
def rX7_isText (N : Nat) (S : zS) (x0 : Nat) (x1 : Int32) : Option (Int32 × zS) := rX7_isText_0 N S x0 x1
def rX7_write_0 (N : Nat) (S : zS) (z : Nat) (x0 : Nat) (x1 : Int32) : Option (Int32 × zS × Nat) :=
  zgeI z <|
  (zrc S x0 7).bind fun u1 =>
  zb2 (rX7_isText N S x0 x1) fun v3 S2 =>
  if v3 = (0 : Int32) then
    some ((-1 : Int32), S2, z)
  else
    (zgr S2 x0 7 0).bind fun v4 =>
    (zrc S2 v4 6).bind fun u5 =>
    zb3 (rX6_tapeTo N S2 z v4 x1) fun v8 S6 z7 =>
    zgeI z7 <|
    some (v8, S6, z7)
def rX7_write (N : Nat) (S : zS) (z : Nat) (x0 : Nat) (x1 : Int32) : Option (Int32 × zS × Nat) := rX7_write_0 N S z x0 x1
def rX7_isBit_14 (N : Nat) (S : zS) (y0 : Int32) : Option (Int32 × zS) :=
  some (y0 &&& 1, S)
def rX7_isBit_9 (N : Nat) (S : zS) : Option (Int32 × zS) :=
  rX7_isBit_14 N S (1 : Int32)
def rX7_isBit_0 (N : Nat) (S : zS) (x0 : Int32) : Option (Int32 × zS) :=
  if x0 = (0 : Int32) then
    rX7_isBit_9 N S
  else
    if x0 = (1 : Int32) then
      rX7_isBit_9 N S
    else
      rX7_isBit_14 N S (0 : Int32)
def rX7_isBit (N : Nat) (S : zS) (x0 : Int32) : Option (Int32 × zS) := rX7_isBit_0 N S x0
def rX7_withBit_0 (N : Nat) (S : zS) (x0 : Int32) (x1 : Int32) (x2 : Int32) : Option (Int32 × zS) :=
  some (((x0 &&& (((1 : Int32) <<< (x1 &&& 31)) ^^^ (-1 : Int32))) ||| (x2 <<< (x1 &&& 31))), S)
def rX7_withBit (N : Nat) (S : zS) (x0 : Int32) (x1 : Int32) (x2 : Int32) : Option (Int32 × zS) := rX7_withBit_0 N S x0 x1 x2
def rX7_lack_15 (N : Nat) (S : zS) : Option (Int32 × zS) :=
  some ((-1 : Int32), S)
def rX7_lack_0 (N : Nat) (S : zS) (x0 : Nat) (x1 : Int32) (x2 : Int32) : Option (Int32 × zS) :=
  (zrc S x0 7).bind fun u1 =>
  zb2 (rX7_isText N S x0 x1) fun v3 S2 =>
  if v3 = (0 : Int32) then
    rX7_lack_15 N S2
  else
    zb2 (rX7_isBit N S2 x2) fun v5 S4 =>
    if v5 = (0 : Int32) then
      rX7_lack_15 N S4
    else
      (zgr S4 x0 7 0).bind fun v6 =>
      (zgi S4 v6 6 3).bind fun v7 =>
      zlet ((zush v7 x1) &&& (1 : Int32)) fun v8 =>
      (zgr S4 x0 7 0).bind fun v9 =>
      (zgr S4 x0 7 0).bind fun v10 =>
      (zgi S4 v10 6 3).bind fun v11 =>
      zb2 (rX7_withBit N S4 v11 x1 x2) fun v13 S12 =>
      (zpi S12 v9 6 3 v13).bind fun S14 =>
      some (v8, S14)
def rX7_lack (N : Nat) (S : zS) (x0 : Nat) (x1 : Int32) (x2 : Int32) : Option (Int32 × zS) := rX7_lack_0 N S x0 x1 x2
def rX7_isRoom_15 (N : Nat) (S : zS) (y0 : Int32) : Option (Int32 × zS) :=
  some (y0 &&& 1, S)
def rX7_isRoom_14 (N : Nat) (S : zS) : Option (Int32 × zS) :=
  rX7_isRoom_15 N S (0 : Int32)
def rX7_isRoom_0 (N : Nat) (S : zS) (x0 : Int32) : Option (Int32 × zS) :=
  if x0 < (0 : Int32) then
    rX7_isRoom_14 N S
  else
    if (8 : Int32) ≤ x0 then
      rX7_isRoom_14 N S
    else
      rX7_isRoom_15 N S (1 : Int32)
def rX7_isRoom (N : Nat) (S : zS) (x0 : Int32) : Option (Int32 × zS) := rX7_isRoom_0 N S x0
def rX7_isWord_15 (N : Nat) (S : zS) (y0 : Int32) : Option (Int32 × zS) :=
  some (y0 &&& 1, S)
def rX7_isWord_14 (N : Nat) (S : zS) : Option (Int32 × zS) :=
  rX7_isWord_15 N S (0 : Int32)
def rX7_isWord_0 (N : Nat) (S : zS) (x0 : Int32) : Option (Int32 × zS) :=
  if x0 < (0 : Int32) then
    rX7_isWord_14 N S
  else
    if (8 : Int32) ≤ x0 then
      rX7_isWord_14 N S
    else
      rX7_isWord_15 N S (1 : Int32)
def rX7_isWord (N : Nat) (S : zS) (x0 : Int32) : Option (Int32 × zS) := rX7_isWord_0 N S x0
def rX7_word_25 (N : Nat) (S : zS) : Option (Int32 × zS) :=
  some ((-1 : Int32), S)
def rX7_word_0 (N : Nat) (S : zS) (x0 : Nat) (x1 : Int32) (x2 : Int32) (x3 : Int32) : Option (Int32 × zS) :=
  zb2 (rX7_isRoom N S x1) fun v2 S1 =>
  if v2 = (0 : Int32) then
    rX7_word_25 N S1
  else
    zb2 (rX7_isWord N S1 x2) fun v4 S3 =>
    if v4 = (0 : Int32) then
      rX7_word_25 N S3
    else
      if x3 < (0 : Int32) then
        rX7_word_25 N S3
      else
        if x3 ≤ (255 : Int32) then
          (zgr S3 x0 7 2).bind fun v5 =>
          (zal S3 v5 13 x1).bind fun v6 =>
          (zil S3 v6 x2).bind fun v7 =>
          (zgr S3 x0 7 2).bind fun v8 =>
          (zal S3 v8 13 x1).bind fun v9 =>
          (zis S3 v9 x2 x3).bind fun S10 =>
          some (v7, S10)
        else
          rX7_word_25 N S3
def rX7_word (N : Nat) (S : zS) (x0 : Nat) (x1 : Int32) (x2 : Int32) (x3 : Int32) : Option (Int32 × zS) := rX7_word_0 N S x0 x1 x2 x3
def rX7_areRooms_19 (N : Nat) (S : zS) (y0 : Int32) : Option (Int32 × zS) :=
  some (y0 &&& 1, S)
def rX7_areRooms_18 (N : Nat) (S : zS) : Option (Int32 × zS) :=
  rX7_areRooms_19 N S (0 : Int32)
def rX7_areRooms_0 (N : Nat) (S : zS) (x0 : Int32) (x1 : Int32) : Option (Int32 × zS) :=
  zb2 (rX7_isRoom N S x0) fun v2 S1 =>
  if v2 = (0 : Int32) then
    rX7_areRooms_18 N S1
  else
    zb2 (rX7_isRoom N S1 x1) fun v4 S3 =>
    if v4 = (0 : Int32) then
      rX7_areRooms_18 N S3
    else
      rX7_areRooms_19 N S3 (1 : Int32)
def rX7_areRooms (N : Nat) (S : zS) (x0 : Int32) (x1 : Int32) : Option (Int32 × zS) := rX7_areRooms_0 N S x0 x1
def rX7_unlikeWords_40 (N : Nat) (K5 : zS × Nat × Int32 × Int32 × Int32 × Int32 → Option (Int32 × zS)) (S : zS) (x0 : Nat) (x1 : Int32) (x2 : Int32) (x3 : Int32) (x4 : Int32) : Option (Int32 × zS) :=
  K5 (S, x0, x1, x2, x3, (x4 + (1 : Int32)))
def rX7_unlikeWords_5 (N : Nat) (K5 : zS × Nat × Int32 × Int32 × Int32 × Int32 → Option (Int32 × zS)) (S : zS) (x0 : Nat) (x1 : Int32) (x2 : Int32) (x3 : Int32) (x4 : Int32) : Option (Int32 × zS) :=
  if (8 : Int32) ≤ x4 then
    some (x3, S)
  else
    (zgr S x0 7 2).bind fun v1 =>
    (zal S v1 13 x1).bind fun v2 =>
    (zil S v2 x4).bind fun v3 =>
    (zgr S x0 7 2).bind fun v4 =>
    (zal S v4 13 x2).bind fun v5 =>
    (zil S v5 x4).bind fun v6 =>
    if v3 = v6 then
      rX7_unlikeWords_40 N K5 S x0 x1 x2 x3 x4
    else
      zlet (x3 ||| ((1 : Int32) <<< (x4 &&& 31))) fun v7 =>
      rX7_unlikeWords_40 N K5 S x0 x1 x2 v7 x4
def rlX7_unlikeWords_5 (N : Nat)  (S : zS) (x0 : Nat) (x1 : Int32) (x2 : Int32) (x3 : Int32) (x4 : Int32) : Option (Int32 × zS) := zloop (fun K y => rX7_unlikeWords_5 N K y.1 y.2.1 y.2.2.1 y.2.2.2.1 y.2.2.2.2.1 y.2.2.2.2.2) N (S, x0, x1, x2, x3, x4)
def rX7_unlikeWords_0 (N : Nat) (S : zS) (x0 : Nat) (x1 : Int32) (x2 : Int32) : Option (Int32 × zS) :=
  rlX7_unlikeWords_5 N S x0 x1 x2 (0 : Int32) (0 : Int32)
def rX7_unlikeWords (N : Nat) (S : zS) (x0 : Nat) (x1 : Int32) (x2 : Int32) : Option (Int32 × zS) := rX7_unlikeWords_0 N S x0 x1 x2
def rX7_copy_0 (N : Nat) (S : zS) (x0 : Nat) (x1 : Int32) (x2 : Int32) : Option (Int32 × zS) :=
  zb2 (rX7_areRooms N S x1 x2) fun v2 S1 =>
  if v2 = (0 : Int32) then
    some ((-1 : Int32), S1)
  else
    (zrc S1 x0 7).bind fun u3 =>
    zb2 (rX7_unlikeWords N S1 x0 x1 x2) fun v5 S4 =>
    zb2 (fJ6_bitCount_0f7a4 N S4 v5) fun v7 S6 =>
    (zgr S6 x0 7 2).bind fun v8 =>
    (zal S6 v8 13 x1).bind fun v9 =>
    (zgr S6 x0 7 2).bind fun v10 =>
    (zal S6 v10 13 x2).bind fun v11 =>
    (zcp S6 v9 (0 : Int32) v11 (0 : Int32) (8 : Int32)).bind fun S12 =>
    some (v7, S12)
def rX7_copy (N : Nat) (S : zS) (x0 : Nat) (x1 : Int32) (x2 : Int32) : Option (Int32 × zS) := rX7_copy_0 N S x0 x1 x2
def rX7_step_31 (N : Nat) (S : zS) : Option (Int32 × zS) :=
  some ((-1 : Int32), S)
def rX7_step_0 (N : Nat) (S : zS) (x0 : Nat) (x1 : Int32) (x2 : Int32) (x3 : Int32) : Option (Int32 × zS) :=
  if x1 < (0 : Int32) then
    rX7_step_31 N S
  else
    if (7 : Int32) < x1 then
      rX7_step_31 N S
    else
      if x2 < (0 : Int32) then
        rX7_step_31 N S
      else
        if (255 : Int32) < x2 then
          rX7_step_31 N S
        else
          if x3 < (0 : Int32) then
            rX7_step_31 N S
          else
            if x3 < (8 : Int32) then
              (zgr S x0 7 1).bind fun v1 =>
              (zgi S v1 4 8).bind fun v2 =>
              if v2 < (24 : Int32) then
                (zgr S x0 7 1).bind fun v3 =>
                (zrc S v3 4).bind fun u4 =>
                zb2 (rX4_addStep N S v3 x1 x2 x3) fun v6 S5 =>
                some (v6, S5)
              else
                some ((-3 : Int32), S)
            else
              rX7_step_31 N S
def rX7_step (N : Nat) (S : zS) (x0 : Nat) (x1 : Int32) (x2 : Int32) (x3 : Int32) : Option (Int32 × zS) := rX7_step_0 N S x0 x1 x2 x3
def rX7_isInputFor_27 (N : Nat) (S : zS) (y0 : Int32) : Option (Int32 × zS) :=
  some (y0 &&& 1, S)
def rX7_isInputFor_26 (N : Nat) (S : zS) : Option (Int32 × zS) :=
  rX7_isInputFor_27 N S (0 : Int32)
def rX7_isInputFor_22 (N : Nat) (S : zS) : Option (Int32 × zS) :=
  rX7_isInputFor_27 N S (1 : Int32)
def rX7_isInputFor_0 (N : Nat) (S : zS) (x0 : Nat) (x1 : Int32) (x2 : Int32) : Option (Int32 × zS) :=
  (zrc S x0 7).bind fun u1 =>
  zb2 (rX7_isText N S x0 x2) fun v3 S2 =>
  if v3 = (0 : Int32) then
    if x2 < (100 : Int32) then
      rX7_isInputFor_26 N S2
    else
      if ((100 : Int32) + x1) ≤ x2 then
        rX7_isInputFor_26 N S2
      else
        rX7_isInputFor_22 N S2
  else
    rX7_isInputFor_22 N S2
def rX7_isInputFor (N : Nat) (S : zS) (x0 : Nat) (x1 : Int32) (x2 : Int32) : Option (Int32 × zS) := rX7_isInputFor_0 N S x0 x1 x2
def rX7_isStep_20 (N : Nat) (S : zS) (y0 : Int32) : Option (Int32 × zS) :=
  some (y0 &&& 1, S)
def rX7_isStep_19 (N : Nat) (S : zS) : Option (Int32 × zS) :=
  rX7_isStep_20 N S (0 : Int32)
def rX7_isStep_0 (N : Nat) (S : zS) (x0 : Nat) (x1 : Int32) : Option (Int32 × zS) :=
  if x1 < (0 : Int32) then
    rX7_isStep_19 N S
  else
    (zgr S x0 7 1).bind fun v1 =>
    (zgi S v1 4 8).bind fun v2 =>
    if v2 ≤ x1 then
      rX7_isStep_19 N S
    else
      rX7_isStep_20 N S (1 : Int32)
def rX7_isStep (N : Nat) (S : zS) (x0 : Nat) (x1 : Int32) : Option (Int32 × zS) := rX7_isStep_0 N S x0 x1
def rX7_need_17 (N : Nat) (S : zS) : Option (Int32 × zS) :=
  some ((-1 : Int32), S)
def rX7_need_0 (N : Nat) (S : zS) (x0 : Nat) (x1 : Int32) (x2 : Int32) : Option (Int32 × zS) :=
  (zrc S x0 7).bind fun u1 =>
  zb2 (rX7_isStep N S x0 x1) fun v3 S2 =>
  if v3 = (0 : Int32) then
    rX7_need_17 N S2
  else
    (zrc S2 x0 7).bind fun u4 =>
    zb2 (rX7_isInputFor N S2 x0 x1 x2) fun v6 S5 =>
    if v6 = (0 : Int32) then
      rX7_need_17 N S5
    else
      (zgr S5 x0 7 1).bind fun v7 =>
      (zgi S5 v7 4 9).bind fun v8 =>
      if ((zush v8 x1) &&& (1 : Int32)) = (0 : Int32) then
        (zgr S5 x0 7 1).bind fun v9 =>
        (zgr S5 v9 4 4).bind fun v10 =>
        (zil S5 v10 x1).bind fun v11 =>
        if v11 < (4 : Int32) then
          (zgr S5 x0 7 1).bind fun v12 =>
          (zrc S5 v12 4).bind fun u13 =>
          zb2 (rX4_addInput N S5 v12 x1 x2) fun v15 S14 =>
          some (v15, S14)
        else
          some ((-3 : Int32), S5)
      else
        some ((-2 : Int32), S5)
def rX7_need (N : Nat) (S : zS) (x0 : Nat) (x1 : Int32) (x2 : Int32) : Option (Int32 × zS) := rX7_need_0 N S x0 x1 x2
def rX7_made_60 (N : Nat) (S : zS) (z : Nat) (y0 : Int32) : Option (Int32 × zS × Nat) :=
  zgeI z <|
  some (y0, S, z)
def rX7_made_15 (N : Nat) (S : zS) (z : Nat) : Option (Int32 × zS × Nat) :=
  zgeI z <|
  some ((-1 : Int32), S, z)
def rX7_made_0 (N : Nat) (S : zS) (z : Nat) (x0 : Nat) (x1 : Int32) (x2 : Int32) : Option (Int32 × zS × Nat) :=
  zgeI z <|
  zb2 (rX7_isRoom N S x1) fun v2 S1 =>
  if v2 = (0 : Int32) then
    rX7_made_15 N S1 z
  else
    (zrc S1 x0 7).bind fun u3 =>
    zb2 (rX7_isStep N S1 x0 x2) fun v5 S4 =>
    if v5 = (0 : Int32) then
      rX7_made_15 N S4 z
    else
      (zgr S4 x0 7 3).bind fun v6 =>
      (zgr S4 x0 7 2).bind fun v7 =>
      (zal S4 v7 13 x1).bind fun v8 =>
      (zrc S4 v6 1).bind fun u9 =>
      zb2 (rX1_makeIn N S4 z v6 v8 x2) fun S10 z11 =>
      zgeI z11 <|
      (zgr S10 x0 7 3).bind fun v12 =>
      (zgr S10 v12 1 4).bind fun v13 =>
      (zzl S10 v13 x2).bind fun v14 =>
      if v14 = (0 : Int32) then
        (zgr S10 x0 7 3).bind fun v15 =>
        (zgr S10 v15 1 3).bind fun v16 =>
        (zal S10 v16 12 x2).bind fun v17 =>
        (zgi S10 v17 5 2).bind fun v18 =>
        rX7_made_60 N S10 z11 v18
      else
        rX7_made_60 N S10 z11 (-2 : Int32)
def rX7_made (N : Nat) (S : zS) (z : Nat) (x0 : Nat) (x1 : Int32) (x2 : Int32) : Option (Int32 × zS × Nat) := rX7_made_0 N S z x0 x1 x2
def rX7_at_88 (N : Nat) (S : zS) (z : Nat) (y0 : Int32) : Option (Int32 × zS × Nat) :=
  zgeI z <|
  some (y0, S, z)
def rX7_at_26 (N : Nat) (S : zS) (z : Nat) : Option (Int32 × zS × Nat) :=
  zgeI z <|
  some ((-1 : Int32), S, z)
def rX7_at_0 (N : Nat) (S : zS) (z : Nat) (x0 : Nat) (x1 : Int32) (x2 : Int32) (x3 : Int32) : Option (Int32 × zS × Nat) :=
  zgeI z <|
  zb2 (rX7_isRoom N S x1) fun v2 S1 =>
  if v2 = (0 : Int32) then
    rX7_at_26 N S1 z
  else
    (zrc S1 x0 7).bind fun u3 =>
    zb2 (rX7_isStep N S1 x0 x2) fun v5 S4 =>
    if v5 = (0 : Int32) then
      rX7_at_26 N S4 z
    else
      if x3 < (0 : Int32) then
        rX7_at_26 N S4 z
      else
        if x3 < (200 : Int32) then
          (zgr S4 x0 7 3).bind fun v6 =>
          (zgr S4 x0 7 2).bind fun v7 =>
          (zal S4 v7 13 x1).bind fun v8 =>
          (zrc S4 v6 1).bind fun u9 =>
          zb2 (rX1_makeIn N S4 z v6 v8 x2) fun S10 z11 =>
          zgeI z11 <|
          (zgr S10 x0 7 3).bind fun v12 =>
          (zgr S10 v12 1 4).bind fun v13 =>
          (zzl S10 v13 x2).bind fun v14 =>
          if v14 = (0 : Int32) then
            (zgr S10 x0 7 3).bind fun v15 =>
            (zgr S10 v15 1 3).bind fun v16 =>
            (zal S10 v16 12 x2).bind fun v17 =>
            (zgi S10 v17 5 2).bind fun v18 =>
            if v18 ≤ x3 then
              rX7_at_88 N S10 z11 (-1 : Int32)
            else
              (zgr S10 v17 5 1).bind fun v19 =>
              (zil S10 v19 x3).bind fun v20 =>
              rX7_at_88 N S10 z11 v20
          else
            some ((-2 : Int32), S10, z11)
        else
          rX7_at_26 N S4 z
def rX7_at (N : Nat) (S : zS) (z : Nat) (x0 : Nat) (x1 : Int32) (x2 : Int32) (x3 : Int32) : Option (Int32 × zS × Nat) := rX7_at_0 N S z x0 x1 x2 x3
def rX7_reads_61 (N : Nat) (S : zS) (z : Nat) (y0 : Nat) (y1 : Int32) : Option (Int32 × zS × Nat) :=
  zgeI z <|
  (zrc S y0 1).bind fun u1 =>
  zb2 (rX1_wordsRead N S y0 y1) fun v3 S2 =>
  some (v3, S2, z)
def rX7_reads_22 (N : Nat) (S : zS) (z : Nat) : Option (Int32 × zS × Nat) :=
  zgeI z <|
  some ((-1 : Int32), S, z)
def rX7_reads_0 (N : Nat) (S : zS) (z : Nat) (x0 : Nat) (x1 : Int32) (x2 : Int32) (x3 : Int32) : Option (Int32 × zS × Nat) :=
  zgeI z <|
  zb2 (rX7_isRoom N S x1) fun v5 S4 =>
  if v5 = (0 : Int32) then
    rX7_reads_22 N S4 z
  else
    (zrc S4 x0 7).bind fun u6 =>
    zb2 (rX7_isStep N S4 x0 x2) fun v8 S7 =>
    if v8 = (0 : Int32) then
      rX7_reads_22 N S7 z
    else
      zb2 (rX7_isBit N S7 x3) fun v10 S9 =>
      if v10 = (0 : Int32) then
        rX7_reads_22 N S9 z
      else
        (zgr S9 x0 7 3).bind fun v11 =>
        (zgr S9 x0 7 2).bind fun v12 =>
        (zal S9 v12 13 x1).bind fun v13 =>
        (zrc S9 v11 1).bind fun u14 =>
        zb2 (rX1_makeIn N S9 z v11 v13 x2) fun S15 z16 =>
        zgeI z16 <|
        (zgr S15 x0 7 3).bind fun v17 =>
        if x3 = (0 : Int32) then
          rX7_reads_61 N S15 z16 v17 ((1 : Int32) <<< (x2 &&& 31))
        else
          (zgr S15 x0 7 1).bind fun v18 =>
          (zgr S15 v18 4 5).bind fun v19 =>
          (zil S15 v19 x2).bind fun v20 =>
          rX7_reads_61 N S15 z16 v17 v20
def rX7_reads (N : Nat) (S : zS) (z : Nat) (x0 : Nat) (x1 : Int32) (x2 : Int32) (x3 : Int32) : Option (Int32 × zS × Nat) := rX7_reads_0 N S z x0 x1 x2 x3
def rX7_uses_42 (N : Nat) (S : zS) (y0 : Int32) : Option (Int32 × zS) :=
  some (y0, S)
def rX7_uses_15 (N : Nat) (S : zS) : Option (Int32 × zS) :=
  some ((-1 : Int32), S)
def rX7_uses_0 (N : Nat) (S : zS) (x0 : Nat) (x1 : Int32) (x2 : Int32) : Option (Int32 × zS) :=
  (zrc S x0 7).bind fun u1 =>
  zb2 (rX7_isStep N S x0 x1) fun v3 S2 =>
  if v3 = (0 : Int32) then
    rX7_uses_15 N S2
  else
    zb2 (rX7_isBit N S2 x2) fun v5 S4 =>
    if v5 = (0 : Int32) then
      rX7_uses_15 N S4
    else
      if x2 = (0 : Int32) then
        (zgr S4 x0 7 1).bind fun v9 =>
        (zgr S4 v9 4 5).bind fun v10 =>
        (zil S4 v10 x1).bind fun v11 =>
        rX7_uses_42 N S4 v11
      else
        (zgr S4 x0 7 1).bind fun v6 =>
        (zgr S4 v6 4 6).bind fun v7 =>
        (zil S4 v7 x1).bind fun v8 =>
        rX7_uses_42 N S4 v8
def rX7_uses (N : Nat) (S : zS) (x0 : Nat) (x1 : Int32) (x2 : Int32) : Option (Int32 × zS) := rX7_uses_0 N S x0 x1 x2
def rX7_orders_0 (N MC MS : Nat) (S : zS) (z : Nat) (q : Nat) (w : Nat) (x0 : Nat) (x1 : Int32) : Option (Int64 × zS × Nat) :=
  (zbud MC MS q w 0 0).bind fun u1 =>
  (zrc S x0 7).bind fun u2 =>
  zb2 (rX7_isStep N S x0 x1) fun v4 S3 =>
  if v4 = (0 : Int32) then
    zfin MC MS q w ((-1 : Int64), S3, z)
  else
    (zgr S3 x0 7 1).bind fun v5 =>
    (zgr S3 v5 4 5).bind fun v6 =>
    (zil S3 v6 x1).bind fun v7 =>
    (zbud MC MS q w 0 0).bind fun u8 =>
    zb2 (fJ6_bitCount_0f7a4 N S3 v7) fun v10 S9 =>
    if v10 ≤ (16 : Int32) then
      (zgr S9 x0 7 6).bind fun v11 =>
      (zgr S9 x0 7 1).bind fun v12 =>
      (zbud MC MS q w MC MS).bind fun u13 =>
      (zrc S9 v11 3).bind fun u14 =>
      zb3 (rX3_ordersOf N MC MS S9 z 0 0 v11 v12 x1) fun v17 S15 z16 =>
      zfin MC MS (q + MC) (w + MS) (v17, S15, z16)
    else
      zfin MC MS q w ((-4 : Int64), S9, z)
def rX7_orders (N MC MS : Nat) (S : zS) (z : Nat) (q : Nat) (w : Nat) (x0 : Nat) (x1 : Int32) : Option (Int64 × zS × Nat) := rX7_orders_0 N MC MS S z q w x0 x1
def rX7_built_63 (N : Nat) (K34 : zS × Nat × Nat × Int32 × Int32 → Option (Int32 × zS × Nat)) (S : zS) (z : Nat) (x0 : Nat) (x3 : Int32) (y0 : Int32) (y1 : Int32) : Option (Int32 × zS × Nat) :=
  zgeI z <|
  K34 (S, z, x0, (y0 + y1), (x3 + (1 : Int32)))
def rX7_built_34 (N : Nat) (K34 : zS × Nat × Nat × Int32 × Int32 → Option (Int32 × zS × Nat)) (S : zS) (z : Nat) (x0 : Nat) (x2 : Int32) (x3 : Int32) : Option (Int32 × zS × Nat) :=
  zgeI z <|
  (zgr S x0 7 1).bind fun v1 =>
  (zgi S v1 4 8).bind fun v2 =>
  if v2 ≤ x3 then
    some (x2, S, z)
  else
    (zgr S x0 7 3).bind fun v3 =>
    (zgr S v3 1 4).bind fun v4 =>
    (zzl S v4 x3).bind fun v5 =>
    if v5 = (0 : Int32) then
      rX7_built_63 N K34 S z x0 x3 x2 (1 : Int32)
    else
      rX7_built_63 N K34 S z x0 x3 x2 (0 : Int32)
def rlX7_built_34 (N : Nat)  (S : zS) (z : Nat) (x0 : Nat) (x2 : Int32) (x3 : Int32) : Option (Int32 × zS × Nat) := zloop (fun K y => rX7_built_34 N K y.1 y.2.1 y.2.2.1 y.2.2.2.1 y.2.2.2.2) N (S, z, x0, x2, x3)
def rX7_built_0 (N : Nat) (S : zS) (z : Nat) (x0 : Nat) (x1 : Int32) : Option (Int32 × zS × Nat) :=
  zgeI z <|
  zb2 (rX7_isRoom N S x1) fun v7 S6 =>
  if v7 = (0 : Int32) then
    some ((-1 : Int32), S6, z)
  else
    (zgr S6 x0 7 3).bind fun v8 =>
    (zgr S6 x0 7 2).bind fun v9 =>
    (zal S6 v9 13 x1).bind fun v10 =>
    (zrc S6 v8 1).bind fun u11 =>
    (rX1_open N S6 v8 v10).bind fun S12 =>
    (zgr S12 x0 7 3).bind fun v13 =>
    (zrc S12 v13 1).bind fun u14 =>
    zb2 (rX1_make N S12 z v13 (-1 : Int32)) fun S15 z16 =>
    zgeI z16 <|
    rlX7_built_34 N S15 z16 x0 (0 : Int32) (0 : Int32)
def rX7_built (N : Nat) (S : zS) (z : Nat) (x0 : Nat) (x1 : Int32) : Option (Int32 × zS × Nat) := rX7_built_0 N S z x0 x1
def rX7_buildBoth_0 (N : Nat) (S : zS) (z : Nat) (x0 : Nat) (x1 : Int32) (x2 : Int32) (x3 : Int32) : Option (zS × Nat) :=
  zgeV z <|
  (zgr S x0 7 3).bind fun v1 =>
  (zgr S x0 7 2).bind fun v2 =>
  (zal S v2 13 x1).bind fun v3 =>
  (zrc S v1 1).bind fun u4 =>
  zb2 (rX1_makeIn N S z v1 v3 x3) fun S5 z6 =>
  zgeV z6 <|
  (zgr S5 x0 7 4).bind fun v7 =>
  (zgr S5 x0 7 2).bind fun v8 =>
  (zal S5 v8 13 x2).bind fun v9 =>
  (zrc S5 v7 1).bind fun u10 =>
  zb2 (rX1_makeIn N S5 z6 v7 v9 x3) fun S11 z12 =>
  zgeV z12 <|
  some (S11, z12)
def rX7_buildBoth (N : Nat) (S : zS) (z : Nat) (x0 : Nat) (x1 : Int32) (x2 : Int32) (x3 : Int32) : Option (zS × Nat) := rX7_buildBoth_0 N S z x0 x1 x2 x3
def rX7_sameThing_53 (N : Nat) (S : zS) (y0 : Int32) : Option (Int32 × zS) :=
  some (y0 &&& 1, S)
def rX7_sameThing_52 (N : Nat) (S : zS) : Option (Int32 × zS) :=
  rX7_sameThing_53 N S (0 : Int32)
def rX7_sameThing_24 (N : Nat) (S : zS) (x0 : Nat) (x1 : Int32) : Option (Int32 × zS) :=
  (zgr S x0 7 3).bind fun v1 =>
  (zgr S v1 1 4).bind fun v2 =>
  (zzl S v2 x1).bind fun v3 =>
  if v3 = (0 : Int32) then
    rX7_sameThing_52 N S
  else
    (zgr S x0 7 4).bind fun v4 =>
    (zgr S v4 1 4).bind fun v5 =>
    (zzl S v5 x1).bind fun v6 =>
    if v6 = (0 : Int32) then
      rX7_sameThing_52 N S
    else
      rX7_sameThing_53 N S (1 : Int32)
def rX7_sameThing_0 (N : Nat) (S : zS) (x0 : Nat) (x1 : Int32) : Option (Int32 × zS) :=
  (zgr S x0 7 3).bind fun v7 =>
  (zgr S v7 1 4).bind fun v8 =>
  (zzl S v8 x1).bind fun v9 =>
  if v9 = (0 : Int32) then
    (zgr S x0 7 4).bind fun v10 =>
    (zgr S v10 1 4).bind fun v11 =>
    (zzl S v11 x1).bind fun v12 =>
    if v12 = (0 : Int32) then
      (zgr S x0 7 3).bind fun v13 =>
      (zgr S v13 1 3).bind fun v14 =>
      (zal S v14 12 x1).bind fun v15 =>
      (zgr S x0 7 4).bind fun v16 =>
      (zgr S v16 1 3).bind fun v17 =>
      (zal S v17 12 x1).bind fun v18 =>
      (zrc S v15 5).bind fun u19 =>
      zb2 (rX5_isSameAs N S v15 v18) fun v21 S20 =>
      some (v21 &&& 1, S20)
    else
      rX7_sameThing_24 N S x0 x1
  else
    rX7_sameThing_24 N S x0 x1
def rX7_sameThing (N : Nat) (S : zS) (x0 : Nat) (x1 : Int32) : Option (Int32 × zS) := rX7_sameThing_0 N S x0 x1
def rX7_alike_38 (N : Nat) (S : zS) (z : Nat) (y0 : Int32) : Option (Int32 × zS × Nat) :=
  zgeI z <|
  some (y0, S, z)
def rX7_alike_16 (N : Nat) (S : zS) (z : Nat) : Option (Int32 × zS × Nat) :=
  zgeI z <|
  some ((-1 : Int32), S, z)
def rX7_alike_0 (N : Nat) (S : zS) (z : Nat) (x0 : Nat) (x1 : Int32) (x2 : Int32) (x3 : Int32) : Option (Int32 × zS × Nat) :=
  zgeI z <|
  zb2 (rX7_areRooms N S x1 x2) fun v2 S1 =>
  if v2 = (0 : Int32) then
    rX7_alike_16 N S1 z
  else
    (zrc S1 x0 7).bind fun u3 =>
    zb2 (rX7_isStep N S1 x0 x3) fun v5 S4 =>
    if v5 = (0 : Int32) then
      rX7_alike_16 N S4 z
    else
      (zrc S4 x0 7).bind fun u6 =>
      zb2 (rX7_buildBoth N S4 z x0 x1 x2 x3) fun S7 z8 =>
      zgeI z8 <|
      (zrc S7 x0 7).bind fun u9 =>
      zb2 (rX7_sameThing N S7 x0 x3) fun v11 S10 =>
      if v11 = (0 : Int32) then
        rX7_alike_38 N S10 z8 (0 : Int32)
      else
        rX7_alike_38 N S10 z8 (1 : Int32)
def rX7_alike (N : Nat) (S : zS) (z : Nat) (x0 : Nat) (x1 : Int32) (x2 : Int32) (x3 : Int32) : Option (Int32 × zS × Nat) := rX7_alike_0 N S z x0 x1 x2 x3
def rX7_changes_49 (N : Nat) (S : zS) (z : Nat) : Option (Int32 × zS × Nat) :=
  zgeI z <|
  some ((-2 : Int32), S, z)
def rX7_changes_16 (N : Nat) (S : zS) (z : Nat) : Option (Int32 × zS × Nat) :=
  zgeI z <|
  some ((-1 : Int32), S, z)
def rX7_changes_0 (N : Nat) (S : zS) (z : Nat) (x0 : Nat) (x1 : Int32) (x2 : Int32) (x3 : Int32) : Option (Int32 × zS × Nat) :=
  zgeI z <|
  zb2 (rX7_areRooms N S x1 x2) fun v2 S1 =>
  if v2 = (0 : Int32) then
    rX7_changes_16 N S1 z
  else
    (zrc S1 x0 7).bind fun u3 =>
    zb2 (rX7_isStep N S1 x0 x3) fun v5 S4 =>
    if v5 = (0 : Int32) then
      rX7_changes_16 N S4 z
    else
      (zrc S4 x0 7).bind fun u6 =>
      zb2 (rX7_buildBoth N S4 z x0 x1 x2 x3) fun S7 z8 =>
      zgeI z8 <|
      (zgr S7 x0 7 3).bind fun v9 =>
      (zgr S7 v9 1 4).bind fun v10 =>
      (zzl S7 v10 x3).bind fun v11 =>
      if v11 = (0 : Int32) then
        (zgr S7 x0 7 4).bind fun v12 =>
        (zgr S7 v12 1 4).bind fun v13 =>
        (zzl S7 v13 x3).bind fun v14 =>
        if v14 = (0 : Int32) then
          (zgr S7 x0 7 5).bind fun v15 =>
          (zgr S7 x0 7 3).bind fun v16 =>
          (zgr S7 v16 1 3).bind fun v17 =>
          (zal S7 v17 12 x3).bind fun v18 =>
          (zgr S7 x0 7 4).bind fun v19 =>
          (zgr S7 v19 1 3).bind fun v20 =>
          (zal S7 v20 12 x3).bind fun v21 =>
          (zrc S7 v15 0).bind fun u22 =>
          (rX0_lay N S7 v15 v18 v21).bind fun S23 =>
          (zgr S23 x0 7 5).bind fun v24 =>
          (zgi S23 v24 0 6).bind fun v25 =>
          some (v25, S23, z8)
        else
          rX7_changes_49 N S7 z8
      else
        rX7_changes_49 N S7 z8
def rX7_changes (N : Nat) (S : zS) (z : Nat) (x0 : Nat) (x1 : Int32) (x2 : Int32) (x3 : Int32) : Option (Int32 × zS × Nat) := rX7_changes_0 N S z x0 x1 x2 x3
def rX7_change_66 (N : Nat) (S : zS) (y0 : Int32) : Option (Int32 × zS) :=
  some (y0, S)
def rX7_change_24 (N : Nat) (S : zS) : Option (Int32 × zS) :=
  some ((-1 : Int32), S)
def rX7_change_0 (N : Nat) (S : zS) (x0 : Nat) (x1 : Int32) (x2 : Int32) : Option (Int32 × zS) :=
  if x1 < (0 : Int32) then
    rX7_change_24 N S
  else
    (zgr S x0 7 5).bind fun v1 =>
    (zgi S v1 0 6).bind fun v2 =>
    if v2 ≤ x1 then
      rX7_change_24 N S
    else
      if x2 < (0 : Int32) then
        rX7_change_24 N S
      else
        if x2 ≤ (2 : Int32) then
          if x2 = (0 : Int32) then
            (zgr S x0 7 5).bind fun v9 =>
            (zgr S v9 0 0).bind fun v10 =>
            (zil S v10 x1).bind fun v11 =>
            some (v11, S)
          else
            if x2 = (1 : Int32) then
              (zgr S x0 7 5).bind fun v6 =>
              (zgr S v6 0 1).bind fun v7 =>
              (zil S v7 x1).bind fun v8 =>
              rX7_change_66 N S v8
            else
              (zgr S x0 7 5).bind fun v3 =>
              (zgr S v3 0 2).bind fun v4 =>
              (zil S v4 x1).bind fun v5 =>
              rX7_change_66 N S v5
        else
          rX7_change_24 N S
def rX7_change (N : Nat) (S : zS) (x0 : Nat) (x1 : Int32) (x2 : Int32) : Option (Int32 × zS) := rX7_change_0 N S x0 x1 x2
def rX7_cause_74 (N : Nat) (K39 : zS × Nat × Nat × Int32 × Int32 → Option (Int32 × zS × Nat)) (S : zS) (z : Nat) (x0 : Nat) (x3 : Int32) (x4 : Int32) : Option (Int32 × zS × Nat) :=
  zgeI z <|
  K39 (S, z, x0, x3, (x4 + (1 : Int32)))
def rX7_cause_39 (N : Nat) (K39 : zS × Nat × Nat × Int32 × Int32 → Option (Int32 × zS × Nat)) (S : zS) (z : Nat) (x0 : Nat) (x3 : Int32) (x4 : Int32) : Option (Int32 × zS × Nat) :=
  zgeI z <|
  if x3 ≤ x4 then
    some (x3, S, z)
  else
    (zgr S x0 7 1).bind fun v1 =>
    (zgr S v1 4 5).bind fun v2 =>
    (zil S v2 x3).bind fun v3 =>
    if ((zush v3 x4) &&& (1 : Int32)) = (0 : Int32) then
      rX7_cause_74 N K39 S z x0 x3 x4
    else
      (zrc S x0 7).bind fun u4 =>
      zb2 (rX7_sameThing N S x0 x4) fun v6 S5 =>
      if v6 = (0 : Int32) then
        some (x4, S5, z)
      else
        rX7_cause_74 N K39 S5 z x0 x3 x4
def rlX7_cause_39 (N : Nat)  (S : zS) (z : Nat) (x0 : Nat) (x3 : Int32) (x4 : Int32) : Option (Int32 × zS × Nat) := zloop (fun K y => rX7_cause_39 N K y.1 y.2.1 y.2.2.1 y.2.2.2.1 y.2.2.2.2) N (S, z, x0, x3, x4)
def rX7_cause_16 (N : Nat) (S : zS) (z : Nat) : Option (Int32 × zS × Nat) :=
  zgeI z <|
  some ((-1 : Int32), S, z)
def rX7_cause_0 (N : Nat) (S : zS) (z : Nat) (x0 : Nat) (x1 : Int32) (x2 : Int32) (x3 : Int32) : Option (Int32 × zS × Nat) :=
  zgeI z <|
  zb2 (rX7_areRooms N S x1 x2) fun v8 S7 =>
  if v8 = (0 : Int32) then
    rX7_cause_16 N S7 z
  else
    (zrc S7 x0 7).bind fun u9 =>
    zb2 (rX7_isStep N S7 x0 x3) fun v11 S10 =>
    if v11 = (0 : Int32) then
      rX7_cause_16 N S10 z
    else
      (zrc S10 x0 7).bind fun u12 =>
      zb2 (rX7_buildBoth N S10 z x0 x1 x2 x3) fun S13 z14 =>
      zgeI z14 <|
      (zrc S13 x0 7).bind fun u15 =>
      zb2 (rX7_sameThing N S13 x0 x3) fun v17 S16 =>
      if v17 = (0 : Int32) then
        rlX7_cause_39 N S16 z14 x0 x3 (0 : Int32)
      else
        some ((-2 : Int32), S16, z14)
def rX7_cause (N : Nat) (S : zS) (z : Nat) (x0 : Nat) (x1 : Int32) (x2 : Int32) (x3 : Int32) : Option (Int32 × zS × Nat) := rX7_cause_0 N S z x0 x1 x2 x3
def rX7_isFixedBy_34 (N : Nat) (K3 : zS × Nat × Nat × Int32 × Int32 × Int32 × Int32 × Int32 → Option (Int32 × zS × Nat)) (S : zS) (z : Nat) (x0 : Nat) (x1 : Int32) (x2 : Int32) (x3 : Int32) (x4 : Int32) (x5 : Int32) (y0 : Nat) (y1 : Int32) (y2 : Nat) (y3 : Int32) : Option (Int32 × zS × Nat) :=
  zgeI z <|
  (zal S y2 13 y3).bind fun v1 =>
  (zil S v1 x5).bind fun v2 =>
  (zrc S y0 1).bind fun u3 =>
  (rX1_turn N S y0 y1 v2).bind fun S4 =>
  K3 (S4, z, x0, x1, x2, x3, x4, (x5 + (1 : Int32)))
def rX7_isFixedBy_3 (N : Nat) (K3 : zS × Nat × Nat × Int32 × Int32 × Int32 × Int32 × Int32 → Option (Int32 × zS × Nat)) (S : zS) (z : Nat) (x0 : Nat) (x1 : Int32) (x2 : Int32) (x3 : Int32) (x4 : Int32) (x5 : Int32) : Option (Int32 × zS × Nat) :=
  zgeI z <|
  if (8 : Int32) ≤ x5 then
    (zgr S x0 7 4).bind fun v5 =>
    (zgr S x0 7 1).bind fun v6 =>
    (zgr S v6 4 5).bind fun v7 =>
    (zil S v7 x4).bind fun v8 =>
    (zrc S v5 1).bind fun u9 =>
    zb2 (rX1_make N S z v5 v8) fun S10 z11 =>
    zgeI z11 <|
    (zrc S10 x0 7).bind fun u12 =>
    zb2 (rX7_sameThing N S10 x0 x4) fun v14 S13 =>
    some (v14 &&& 1, S13, z11)
  else
    (zgr S x0 7 4).bind fun v15 =>
    (zgr S x0 7 2).bind fun v16 =>
    if ((zush x1 x5) &&& (1 : Int32)) = (0 : Int32) then
      rX7_isFixedBy_34 N K3 S z x0 x1 x2 x3 x4 x5 v15 x5 v16 x3
    else
      rX7_isFixedBy_34 N K3 S z x0 x1 x2 x3 x4 x5 v15 x5 v16 x2
def rlX7_isFixedBy_3 (N : Nat)  (S : zS) (z : Nat) (x0 : Nat) (x1 : Int32) (x2 : Int32) (x3 : Int32) (x4 : Int32) (x5 : Int32) : Option (Int32 × zS × Nat) := zloop (fun K y => rX7_isFixedBy_3 N K y.1 y.2.1 y.2.2.1 y.2.2.2.1 y.2.2.2.2.1 y.2.2.2.2.2.1 y.2.2.2.2.2.2.1 y.2.2.2.2.2.2.2) N (S, z, x0, x1, x2, x3, x4, x5)
def rX7_isFixedBy_0 (N : Nat) (S : zS) (z : Nat) (x0 : Nat) (x1 : Int32) (x2 : Int32) (x3 : Int32) (x4 : Int32) : Option (Int32 × zS × Nat) :=
  zgeI z <|
  rlX7_isFixedBy_3 N S z x0 x1 x2 x3 x4 (0 : Int32)
def rX7_isFixedBy (N : Nat) (S : zS) (z : Nat) (x0 : Nat) (x1 : Int32) (x2 : Int32) (x3 : Int32) (x4 : Int32) : Option (Int32 × zS × Nat) := rX7_isFixedBy_0 N S z x0 x1 x2 x3 x4
def rX7_isPart_21 (N : Nat) (S : zS) (y0 : Int32) : Option (Int32 × zS) :=
  some (y0 &&& 1, S)
def rX7_isPart_20 (N : Nat) (S : zS) : Option (Int32 × zS) :=
  rX7_isPart_21 N S (0 : Int32)
def rX7_isPart_0 (N : Nat) (S : zS) (x0 : Int32) (x1 : Int32) (x2 : Int32) : Option (Int32 × zS) :=
  if (x0 &&& (x1 ^^^ (-1 : Int32))) = (0 : Int32) then
    zb2 (fJ6_bitCount_0f7a4 N S x0) fun v2 S1 =>
    if v2 = x2 then
      rX7_isPart_21 N S1 (1 : Int32)
    else
      rX7_isPart_20 N S1
  else
    rX7_isPart_20 N S
def rX7_isPart (N : Nat) (S : zS) (x0 : Int32) (x1 : Int32) (x2 : Int32) : Option (Int32 × zS) := rX7_isPart_0 N S x0 x1 x2
def rX7_fix_91 (N : Nat) (K46 : zS × Nat × Nat × Int32 × Int32 × Int32 × Int32 × Int32 → Option (Int32 × zS × Nat)) (K56 : zS × Nat × Nat × Int32 × Int32 × Int32 × Int32 × Int32 × Int32 → Option (Int32 × zS × Nat)) (S : zS) (z : Nat) (x0 : Nat) (x1 : Int32) (x2 : Int32) (x3 : Int32) (x4 : Int32) (x5 : Int32) (x6 : Int32) : Option (Int32 × zS × Nat) :=
  zgeI z <|
  K56 (S, z, x0, x1, x2, x3, x4, x5, (x6 + (1 : Int32)))
def rX7_fix_56 (N : Nat) (K46 : zS × Nat × Nat × Int32 × Int32 × Int32 × Int32 × Int32 → Option (Int32 × zS × Nat)) (K56 : zS × Nat × Nat × Int32 × Int32 × Int32 × Int32 × Int32 × Int32 → Option (Int32 × zS × Nat)) (S : zS) (z : Nat) (x0 : Nat) (x1 : Int32) (x2 : Int32) (x3 : Int32) (x4 : Int32) (x5 : Int32) (x6 : Int32) : Option (Int32 × zS × Nat) :=
  zgeI z <|
  if (255 : Int32) < x6 then
    K46 (S, z, x0, x1, x2, x3, x4, (x5 + (1 : Int32)))
  else
    zb2 (rX7_isPart N S x6 x4 x5) fun v2 S1 =>
    if v2 = (0 : Int32) then
      rX7_fix_91 N K46 K56 S1 z x0 x1 x2 x3 x4 x5 x6
    else
      (zrc S1 x0 7).bind fun u3 =>
      zb3 (rX7_isFixedBy N S1 z x0 x6 x1 x2 x3) fun v6 S4 z5 =>
      zgeI z5 <|
      if v6 = (0 : Int32) then
        rX7_fix_91 N K46 K56 S4 z5 x0 x1 x2 x3 x4 x5 x6
      else
        some (x6, S4, z5)
def rlX7_fix_56 (N : Nat) (K46 : zS × Nat × Nat × Int32 × Int32 × Int32 × Int32 × Int32 → Option (Int32 × zS × Nat)) (S : zS) (z : Nat) (x0 : Nat) (x1 : Int32) (x2 : Int32) (x3 : Int32) (x4 : Int32) (x5 : Int32) (x6 : Int32) : Option (Int32 × zS × Nat) := zloop (fun K y => rX7_fix_56 N K46 K y.1 y.2.1 y.2.2.1 y.2.2.2.1 y.2.2.2.2.1 y.2.2.2.2.2.1 y.2.2.2.2.2.2.1 y.2.2.2.2.2.2.2.1 y.2.2.2.2.2.2.2.2) N (S, z, x0, x1, x2, x3, x4, x5, x6)
def rX7_fix_46 (N : Nat) (K46 : zS × Nat × Nat × Int32 × Int32 × Int32 × Int32 × Int32 → Option (Int32 × zS × Nat)) (S : zS) (z : Nat) (x0 : Nat) (x1 : Int32) (x2 : Int32) (x3 : Int32) (x4 : Int32) (x5 : Int32) : Option (Int32 × zS × Nat) :=
  zgeI z <|
  if (8 : Int32) < x5 then
    some (x4, S, z)
  else
    rlX7_fix_56 N K46 S z x0 x1 x2 x3 x4 x5 (0 : Int32)
def rlX7_fix_46 (N : Nat)  (S : zS) (z : Nat) (x0 : Nat) (x1 : Int32) (x2 : Int32) (x3 : Int32) (x4 : Int32) (x5 : Int32) : Option (Int32 × zS × Nat) := zloop (fun K y => rX7_fix_46 N K y.1 y.2.1 y.2.2.1 y.2.2.2.1 y.2.2.2.2.1 y.2.2.2.2.2.1 y.2.2.2.2.2.2.1 y.2.2.2.2.2.2.2) N (S, z, x0, x1, x2, x3, x4, x5)
def rX7_fix_16 (N : Nat) (S : zS) (z : Nat) : Option (Int32 × zS × Nat) :=
  zgeI z <|
  some ((-1 : Int32), S, z)
def rX7_fix_0 (N : Nat) (S : zS) (z : Nat) (x0 : Nat) (x1 : Int32) (x2 : Int32) (x3 : Int32) : Option (Int32 × zS × Nat) :=
  zgeI z <|
  zb2 (rX7_areRooms N S x1 x2) fun v8 S7 =>
  if v8 = (0 : Int32) then
    rX7_fix_16 N S7 z
  else
    (zrc S7 x0 7).bind fun u9 =>
    zb2 (rX7_isStep N S7 x0 x3) fun v11 S10 =>
    if v11 = (0 : Int32) then
      rX7_fix_16 N S10 z
    else
      (zrc S10 x0 7).bind fun u12 =>
      zb2 (rX7_buildBoth N S10 z x0 x1 x2 x3) fun S13 z14 =>
      zgeI z14 <|
      (zgr S13 x0 7 1).bind fun v15 =>
      (zgr S13 v15 4 7).bind fun v16 =>
      (zil S13 v16 x3).bind fun v17 =>
      (zrc S13 x0 7).bind fun u18 =>
      zb2 (rX7_unlikeWords N S13 x0 x1 x2) fun v20 S19 =>
      rlX7_fix_46 N S19 z14 x0 x1 x2 x3 (v17 &&& v20) (0 : Int32)
def rX7_fix (N : Nat) (S : zS) (z : Nat) (x0 : Nat) (x1 : Int32) (x2 : Int32) (x3 : Int32) : Option (Int32 × zS × Nat) := rX7_fix_0 N S z x0 x1 x2 x3
def rX7_firstUnlike_49 (N : Nat) (K49 : zS × Nat × Nat × Int32 × Int32 × Int32 × Int32 → Option (Int32 × zS × Nat)) (S : zS) (z : Nat) (x0 : Nat) (x2 : Int32) (x3 : Int32) (x4 : Int32) (x5 : Int32) : Option (Int32 × zS × Nat) :=
  zgeI z <|
  if x4 < x5 then
    some ((-1 : Int32), S, z)
  else
    (zgr S x0 7 4).bind fun v1 =>
    (zrc S v1 1).bind fun u2 =>
    (rX1_turn N S v1 x3 x5).bind fun S3 =>
    (zgr S3 x0 7 4).bind fun v4 =>
    (zgr S3 x0 7 1).bind fun v5 =>
    (zgr S3 v5 4 5).bind fun v6 =>
    (zil S3 v6 x2).bind fun v7 =>
    (zrc S3 v4 1).bind fun u8 =>
    zb2 (rX1_make N S3 z v4 v7) fun S9 z10 =>
    zgeI z10 <|
    (zrc S9 x0 7).bind fun u11 =>
    zb2 (rX7_sameThing N S9 x0 x2) fun v13 S12 =>
    if v13 = (0 : Int32) then
      some (x5, S12, z10)
    else
      K49 (S12, z10, x0, x2, x3, x4, (x5 + (1 : Int32)))
def rlX7_firstUnlike_49 (N : Nat)  (S : zS) (z : Nat) (x0 : Nat) (x2 : Int32) (x3 : Int32) (x4 : Int32) (x5 : Int32) : Option (Int32 × zS × Nat) := zloop (fun K y => rX7_firstUnlike_49 N K y.1 y.2.1 y.2.2.1 y.2.2.2.1 y.2.2.2.2.1 y.2.2.2.2.2.1 y.2.2.2.2.2.2) N (S, z, x0, x2, x3, x4, x5)
def rX7_firstUnlike_0 (N : Nat) (S : zS) (z : Nat) (x0 : Nat) (x1 : Int32) (x2 : Int32) (x3 : Int32) (x4 : Int32) : Option (Int32 × zS × Nat) :=
  zgeI z <|
  (zgr S x0 7 1).bind fun v14 =>
  (zgr S v14 4 7).bind fun v15 =>
  (zil S v15 x2).bind fun v16 =>
  if ((zush v16 x3) &&& (1 : Int32)) = (0 : Int32) then
    some ((-1 : Int32), S, z)
  else
    (zgr S x0 7 3).bind fun v17 =>
    (zgr S x0 7 2).bind fun v18 =>
    (zal S v18 13 x1).bind fun v19 =>
    (zrc S v17 1).bind fun u20 =>
    zb2 (rX1_makeIn N S z v17 v19 x2) fun S21 z22 =>
    zgeI z22 <|
    (zgr S21 x0 7 4).bind fun v23 =>
    (zgr S21 x0 7 2).bind fun v24 =>
    (zal S21 v24 13 x1).bind fun v25 =>
    (zrc S21 v23 1).bind fun u26 =>
    zb2 (rX1_makeIn N S21 z22 v23 v25 x2) fun S27 z28 =>
    zgeI z28 <|
    rlX7_firstUnlike_49 N S27 z28 x0 x2 x3 x4 (0 : Int32)
def rX7_firstUnlike (N : Nat) (S : zS) (z : Nat) (x0 : Nat) (x1 : Int32) (x2 : Int32) (x3 : Int32) (x4 : Int32) : Option (Int32 × zS × Nat) := rX7_firstUnlike_0 N S z x0 x1 x2 x3 x4
def rX7_stable_55 (N : Nat) (S : zS) (z : Nat) (y0 : Int32) : Option (Int32 × zS × Nat) :=
  zgeI z <|
  some (y0, S, z)
def rX7_stable_35 (N : Nat) (S : zS) (z : Nat) : Option (Int32 × zS × Nat) :=
  zgeI z <|
  some ((-1 : Int32), S, z)
def rX7_stable_0 (N : Nat) (S : zS) (z : Nat) (x0 : Nat) (x1 : Int32) (x2 : Int32) (x3 : Int32) (x4 : Int32) : Option (Int32 × zS × Nat) :=
  zgeI z <|
  zb2 (rX7_isRoom N S x1) fun v2 S1 =>
  if v2 = (0 : Int32) then
    rX7_stable_35 N S1 z
  else
    (zrc S1 x0 7).bind fun u3 =>
    zb2 (rX7_isStep N S1 x0 x2) fun v5 S4 =>
    if v5 = (0 : Int32) then
      rX7_stable_35 N S4 z
    else
      zb2 (rX7_isWord N S4 x3) fun v7 S6 =>
      if v7 = (0 : Int32) then
        rX7_stable_35 N S6 z
      else
        if x4 < (0 : Int32) then
          rX7_stable_35 N S6 z
        else
          if x4 ≤ (255 : Int32) then
            (zrc S6 x0 7).bind fun u8 =>
            zb3 (rX7_firstUnlike N S6 z x0 x1 x2 x3 x4) fun v11 S9 z10 =>
            zgeI z10 <|
            if v11 = (-1 : Int32) then
              rX7_stable_55 N S9 z10 (1 : Int32)
            else
              rX7_stable_55 N S9 z10 (0 : Int32)
          else
            rX7_stable_35 N S6 z
def rX7_stable (N : Nat) (S : zS) (z : Nat) (x0 : Nat) (x1 : Int32) (x2 : Int32) (x3 : Int32) (x4 : Int32) : Option (Int32 × zS × Nat) := rX7_stable_0 N S z x0 x1 x2 x3 x4
def rX7_breaks_49 (N : Nat) (S : zS) (z : Nat) (y0 : Int32) : Option (Int32 × zS × Nat) :=
  zgeI z <|
  some (y0, S, z)
def rX7_breaks_22 (N : Nat) (S : zS) (z : Nat) : Option (Int32 × zS × Nat) :=
  zgeI z <|
  some ((-1 : Int32), S, z)
def rX7_breaks_0 (N : Nat) (S : zS) (z : Nat) (x0 : Nat) (x1 : Int32) (x2 : Int32) (x3 : Int32) : Option (Int32 × zS × Nat) :=
  zgeI z <|
  zb2 (rX7_isRoom N S x1) fun v2 S1 =>
  if v2 = (0 : Int32) then
    rX7_breaks_22 N S1 z
  else
    (zrc S1 x0 7).bind fun u3 =>
    zb2 (rX7_isStep N S1 x0 x2) fun v5 S4 =>
    if v5 = (0 : Int32) then
      rX7_breaks_22 N S4 z
    else
      zb2 (rX7_isWord N S4 x3) fun v7 S6 =>
      if v7 = (0 : Int32) then
        rX7_breaks_22 N S6 z
      else
        (zrc S6 x0 7).bind fun u8 =>
        zb3 (rX7_firstUnlike N S6 z x0 x1 x2 x3 (255 : Int32)) fun v11 S9 z10 =>
        zgeI z10 <|
        if v11 = (-1 : Int32) then
          rX7_breaks_49 N S9 z10 (-2 : Int32)
        else
          rX7_breaks_49 N S9 z10 v11
def rX7_breaks (N : Nat) (S : zS) (z : Nat) (x0 : Nat) (x1 : Int32) (x2 : Int32) (x3 : Int32) : Option (Int32 × zS × Nat) := rX7_breaks_0 N S z x0 x1 x2 x3
def fJ6_numberOfTrailingZeros_0f7a4_74 (N : Nat) (S : zS) (x0 : Int32) (x1 : Int32) : Option (Int32 × zS) :=
  some ((x1 + (zush x0 (1 : Int32))), S)
def fJ6_numberOfTrailingZeros_0f7a4_62 (N : Nat) (S : zS) (x0 : Int32) (x1 : Int32) : Option (Int32 × zS) :=
  if x0 ≤ (4 : Int32) then
    fJ6_numberOfTrailingZeros_0f7a4_74 N S x0 x1
  else
    fJ6_numberOfTrailingZeros_0f7a4_74 N S (zush x0 (2 : Int32)) (x1 + (2 : Int32))
def fJ6_numberOfTrailingZeros_0f7a4_49 (N : Nat) (S : zS) (x0 : Int32) (x1 : Int32) : Option (Int32 × zS) :=
  if x0 ≤ (16 : Int32) then
    fJ6_numberOfTrailingZeros_0f7a4_62 N S x0 x1
  else
    fJ6_numberOfTrailingZeros_0f7a4_62 N S (zush x0 (4 : Int32)) (x1 + (4 : Int32))
def fJ6_numberOfTrailingZeros_0f7a4_34 (N : Nat) (S : zS) (x0 : Int32) (x1 : Int32) : Option (Int32 × zS) :=
  if x0 ≤ (256 : Int32) then
    fJ6_numberOfTrailingZeros_0f7a4_49 N S x0 x1
  else
    fJ6_numberOfTrailingZeros_0f7a4_49 N S (zush x0 (8 : Int32)) (x1 + (8 : Int32))
def fJ6_numberOfTrailingZeros_0f7a4_0 (N : Nat) (S : zS) (x0 : Int32) : Option (Int32 × zS) :=
  zlet ((x0 ^^^ (-1 : Int32)) &&& (x0 - (1 : Int32))) fun v1 =>
  if (0 : Int32) < v1 then
    if v1 ≤ (65536 : Int32) then
      fJ6_numberOfTrailingZeros_0f7a4_34 N S v1 (1 : Int32)
    else
      fJ6_numberOfTrailingZeros_0f7a4_34 N S (zush v1 (16 : Int32)) ((1 : Int32) + (16 : Int32))
  else
    some ((v1 &&& (32 : Int32)), S)
def fJ6_numberOfTrailingZeros_0f7a4 (N : Nat) (S : zS) (x0 : Int32) : Option (Int32 × zS) := fJ6_numberOfTrailingZeros_0f7a4_0 N S x0
def rX7_wordsUnlikeIn_38 (N : Nat) (K12 : zS × Nat × Int32 × Int32 × Int32 × Int32 → Option (Int32 × zS)) (S : zS) (x0 : Nat) (x1 : Int32) (x2 : Int32) (x3 : Int32) (x4 : Int32) : Option (Int32 × zS) :=
  K12 (S, x0, x1, x2, x3, (x4 + (1 : Int32)))
def rX7_wordsUnlikeIn_12 (N : Nat) (K12 : zS × Nat × Int32 × Int32 × Int32 × Int32 → Option (Int32 × zS)) (S : zS) (x0 : Nat) (x1 : Int32) (x2 : Int32) (x3 : Int32) (x4 : Int32) : Option (Int32 × zS) :=
  if (8 : Int32) ≤ x4 then
    some (x3, S)
  else
    if ((zush x1 x4) &&& (1 : Int32)) = (0 : Int32) then
      rX7_wordsUnlikeIn_38 N K12 S x0 x1 x2 x3 x4
    else
      (zrc S x0 7).bind fun u1 =>
      zb2 (rX7_unlikeWords N S x0 x2 x4) fun v3 S2 =>
      rX7_wordsUnlikeIn_38 N K12 S2 x0 x1 x2 (x3 ||| v3) x4
def rlX7_wordsUnlikeIn_12 (N : Nat)  (S : zS) (x0 : Nat) (x1 : Int32) (x2 : Int32) (x3 : Int32) (x4 : Int32) : Option (Int32 × zS) := zloop (fun K y => rX7_wordsUnlikeIn_12 N K y.1 y.2.1 y.2.2.1 y.2.2.2.1 y.2.2.2.2.1 y.2.2.2.2.2) N (S, x0, x1, x2, x3, x4)
def rX7_wordsUnlikeIn_0 (N : Nat) (S : zS) (x0 : Nat) (x1 : Int32) : Option (Int32 × zS) :=
  zb2 (fJ6_numberOfTrailingZeros_0f7a4 N S x1) fun v5 S4 =>
  rlX7_wordsUnlikeIn_12 N S4 x0 x1 v5 (0 : Int32) (v5 + (1 : Int32))
def rX7_wordsUnlikeIn (N : Nat) (S : zS) (x0 : Nat) (x1 : Int32) : Option (Int32 × zS) := rX7_wordsUnlikeIn_0 N S x0 x1
def rX7_rooms_101 (N : Nat) (K56 : zS × Nat × Nat × Int32 × Int32 × Int32 → Option (Int32 × zS × Nat)) (K66 : zS × Nat × Nat × Int32 × Int32 × Int32 × Int32 → Option (Int32 × zS × Nat)) (S : zS) (z : Nat) (x0 : Nat) (x2 : Int32) (x3 : Int32) (x4 : Int32) (x5 : Int32) : Option (Int32 × zS × Nat) :=
  zgeI z <|
  K66 (S, z, x0, x2, x3, x4, (x5 + (1 : Int32)))
def rX7_rooms_66 (N : Nat) (K56 : zS × Nat × Nat × Int32 × Int32 × Int32 → Option (Int32 × zS × Nat)) (K66 : zS × Nat × Nat × Int32 × Int32 × Int32 × Int32 → Option (Int32 × zS × Nat)) (S : zS) (z : Nat) (x0 : Nat) (x2 : Int32) (x3 : Int32) (x4 : Int32) (x5 : Int32) : Option (Int32 × zS × Nat) :=
  zgeI z <|
  if (255 : Int32) < x5 then
    K56 (S, z, x0, x2, x3, (x4 + (1 : Int32)))
  else
    zb2 (rX7_isPart N S x5 x2 x4) fun v2 S1 =>
    if v2 = (0 : Int32) then
      rX7_rooms_101 N K56 K66 S1 z x0 x2 x3 x4 x5
    else
      (zrc S1 x0 7).bind fun u3 =>
      zb2 (rX7_wordsUnlikeIn N S1 x0 x5) fun v5 S4 =>
      if (x3 &&& (v5 ^^^ (-1 : Int32))) = (0 : Int32) then
        some (x5, S4, z)
      else
        rX7_rooms_101 N K56 K66 S4 z x0 x2 x3 x4 x5
def rlX7_rooms_66 (N : Nat) (K56 : zS × Nat × Nat × Int32 × Int32 × Int32 → Option (Int32 × zS × Nat)) (S : zS) (z : Nat) (x0 : Nat) (x2 : Int32) (x3 : Int32) (x4 : Int32) (x5 : Int32) : Option (Int32 × zS × Nat) := zloop (fun K y => rX7_rooms_66 N K56 K y.1 y.2.1 y.2.2.1 y.2.2.2.1 y.2.2.2.2.1 y.2.2.2.2.2.1 y.2.2.2.2.2.2) N (S, z, x0, x2, x3, x4, x5)
def rX7_rooms_56 (N : Nat) (K56 : zS × Nat × Nat × Int32 × Int32 × Int32 → Option (Int32 × zS × Nat)) (S : zS) (z : Nat) (x0 : Nat) (x2 : Int32) (x3 : Int32) (x4 : Int32) : Option (Int32 × zS × Nat) :=
  zgeI z <|
  if (8 : Int32) < x4 then
    some ((-2 : Int32), S, z)
  else
    rlX7_rooms_66 N K56 S z x0 x2 x3 x4 (1 : Int32)
def rlX7_rooms_56 (N : Nat)  (S : zS) (z : Nat) (x0 : Nat) (x2 : Int32) (x3 : Int32) (x4 : Int32) : Option (Int32 × zS × Nat) := zloop (fun K y => rX7_rooms_56 N K y.1 y.2.1 y.2.2.1 y.2.2.2.1 y.2.2.2.2.1 y.2.2.2.2.2) N (S, z, x0, x2, x3, x4)
def rX7_rooms_20 (N : Nat) (S : zS) (z : Nat) : Option (Int32 × zS × Nat) :=
  zgeI z <|
  some ((-1 : Int32), S, z)
def rX7_rooms_0 (N : Nat) (S : zS) (z : Nat) (x0 : Nat) (x1 : Int32) (x2 : Int32) : Option (Int32 × zS × Nat) :=
  zgeI z <|
  (zrc S x0 7).bind fun u6 =>
  zb2 (rX7_isStep N S x0 x1) fun v8 S7 =>
  if v8 = (0 : Int32) then
    rX7_rooms_20 N S7 z
  else
    if x2 < (1 : Int32) then
      rX7_rooms_20 N S7 z
    else
      if x2 ≤ (255 : Int32) then
        (zgr S7 x0 7 3).bind fun v9 =>
        (zgr S7 x0 7 2).bind fun v10 =>
        (zal S7 v10 13 (0 : Int32)).bind fun v11 =>
        (zrc S7 v9 1).bind fun u12 =>
        zb2 (rX1_makeIn N S7 z v9 v11 x1) fun S13 z14 =>
        zgeI z14 <|
        (zgr S13 x0 7 3).bind fun v15 =>
        (zgr S13 x0 7 1).bind fun v16 =>
        (zgr S13 v16 4 5).bind fun v17 =>
        (zil S13 v17 x1).bind fun v18 =>
        (zrc S13 v15 1).bind fun u19 =>
        zb2 (rX1_wordsRead N S13 v15 v18) fun v21 S20 =>
        rlX7_rooms_56 N S20 z14 x0 x2 v21 (1 : Int32)
      else
        rX7_rooms_20 N S7 z
def rX7_rooms (N : Nat) (S : zS) (z : Nat) (x0 : Nat) (x1 : Int32) (x2 : Int32) : Option (Int32 × zS × Nat) := rX7_rooms_0 N S z x0 x1 x2
def rX7_isMaker_15 (N : Nat) (S : zS) (y0 : Int32) : Option (Int32 × zS) :=
  some (y0 &&& 1, S)
def rX7_isMaker_14 (N : Nat) (S : zS) : Option (Int32 × zS) :=
  rX7_isMaker_15 N S (0 : Int32)
def rX7_isMaker_0 (N : Nat) (S : zS) (x0 : Int32) : Option (Int32 × zS) :=
  if x0 < (0 : Int32) then
    rX7_isMaker_14 N S
  else
    if (30 : Int32) ≤ x0 then
      rX7_isMaker_14 N S
    else
      rX7_isMaker_15 N S (1 : Int32)
def rX7_isMaker (N : Nat) (S : zS) (x0 : Int32) : Option (Int32 × zS) := rX7_isMaker_0 N S x0
def rX7_maker_57 (N : Nat) (S : zS) (y0 : Nat) (y1 : Int32) (y2 : Int32) : Option (Int32 × zS) :=
  (zis S y0 y1 y2).bind fun S1 =>
  some ((1 : Int32), S1)
def rX7_maker_29 (N : Nat) (S : zS) (x0 : Nat) (x1 : Int32) (x2 : Int32) (x3 : Int32) : Option (Int32 × zS) :=
  (zgr S x0 7 7).bind fun v2 =>
  (zgr S v2 2 0).bind fun v3 =>
  (zis S v3 x1 x2).bind fun S4 =>
  (zgr S4 x0 7 7).bind fun v5 =>
  (zgr S4 v5 2 1).bind fun v6 =>
  if x2 = (-1 : Int32) then
    rX7_maker_57 N S4 v6 x1 (0 : Int32)
  else
    rX7_maker_57 N S4 v6 x1 x3
def rX7_maker_27 (N : Nat) (S : zS) : Option (Int32 × zS) :=
  some ((-1 : Int32), S)
def rX7_maker_0 (N : Nat) (S : zS) (x0 : Nat) (x1 : Int32) (x2 : Int32) (x3 : Int32) : Option (Int32 × zS) :=
  zb2 (rX7_isMaker N S x1) fun v8 S7 =>
  if v8 = (0 : Int32) then
    rX7_maker_27 N S7
  else
    if x2 = (-1 : Int32) then
      rX7_maker_29 N S7 x0 x1 x2 x3
    else
      zb2 (rX7_isMaker N S7 x2) fun v10 S9 =>
      if v10 = (0 : Int32) then
        rX7_maker_27 N S9
      else
        (zrc S9 x0 7).bind fun u11 =>
        zb2 (rX7_isText N S9 x0 x3) fun v13 S12 =>
        if v13 = (0 : Int32) then
          rX7_maker_27 N S12
        else
          rX7_maker_29 N S12 x0 x1 x2 x3
def rX7_maker (N : Nat) (S : zS) (x0 : Nat) (x1 : Int32) (x2 : Int32) (x3 : Int32) : Option (Int32 × zS) := rX7_maker_0 N S x0 x1 x2 x3
def rX7_down_39 (N : Nat) (S : zS) (y0 : Int32) : Option (Int32 × zS) :=
  some (y0, S)
def rX7_down_0 (N : Nat) (S : zS) (x0 : Nat) (x1 : Int32) : Option (Int32 × zS) :=
  zb2 (rX7_isMaker N S x1) fun v2 S1 =>
  if v2 = (0 : Int32) then
    some ((-1 : Int32), S1)
  else
    (zgr S1 x0 7 7).bind fun v3 =>
    (zrc S1 v3 2).bind fun u4 =>
    zb2 (rX2_ringStart N S1 v3 x1) fun v6 S5 =>
    if v6 = (-1 : Int32) then
      (zgr S5 x0 7 7).bind fun v7 =>
      (zrc S5 v7 2).bind fun u8 =>
      zb2 (rX2_way N S5 v7 x1) fun v10 S9 =>
      zb2 (fJ6_bitCount_0f7a4 N S9 v10) fun v12 S11 =>
      rX7_down_39 N S11 (v12 - (1 : Int32))
    else
      rX7_down_39 N S5 (-5 : Int32)
def rX7_down (N : Nat) (S : zS) (x0 : Nat) (x1 : Int32) : Option (Int32 × zS) := rX7_down_0 N S x0 x1
def rX7_ring_58 (N : Nat) (S : zS) (y0 : Int32) : Option (Int32 × zS) :=
  some (y0, S)
def rX7_ring_57 (N : Nat) (S : zS) : Option (Int32 × zS) :=
  rX7_ring_58 N S (-1 : Int32)
def rX7_ring_0 (N : Nat) (S : zS) (x0 : Nat) (x1 : Int32) (x2 : Int32) : Option (Int32 × zS) :=
  zb2 (rX7_isMaker N S x1) fun v2 S1 =>
  if v2 = (0 : Int32) then
    some ((-1 : Int32), S1)
  else
    (zgr S1 x0 7 7).bind fun v3 =>
    (zrc S1 v3 2).bind fun u4 =>
    zb2 (rX2_ringStart N S1 v3 x1) fun v6 S5 =>
    if v6 = (-1 : Int32) then
      some ((-2 : Int32), S5)
    else
      if x2 < (0 : Int32) then
        rX7_ring_57 N S5
      else
        (zgr S5 x0 7 7).bind fun v7 =>
        (zrc S5 v7 2).bind fun u8 =>
        zb2 (rX2_way N S5 v7 v6) fun v10 S9 =>
        zb2 (fJ6_bitCount_0f7a4 N S9 v10) fun v12 S11 =>
        if v12 ≤ x2 then
          rX7_ring_57 N S11
        else
          (zgr S11 x0 7 7).bind fun v13 =>
          (zrc S11 v13 2).bind fun u14 =>
          zb2 (rX2_after N S11 v13 v6 x2) fun v16 S15 =>
          rX7_ring_58 N S15 v16
def rX7_ring (N : Nat) (S : zS) (x0 : Nat) (x1 : Int32) (x2 : Int32) : Option (Int32 × zS) := rX7_ring_0 N S x0 x1 x2
def rX7_needs_49 (N : Nat) (S : zS) (y0 : Int32) : Option (Int32 × zS) :=
  zb2 (fJ6_bitCount_0f7a4 N S y0) fun v2 S1 =>
  some (v2, S1)
def rX7_needs_14 (N : Nat) (S : zS) : Option (Int32 × zS) :=
  some ((-1 : Int32), S)
def rX7_needs_0 (N : Nat) (S : zS) (x0 : Nat) (x1 : Int32) (x2 : Int32) : Option (Int32 × zS) :=
  zb2 (rX7_isMaker N S x1) fun v4 S3 =>
  if v4 = (0 : Int32) then
    rX7_needs_14 N S3
  else
    zb2 (rX7_isBit N S3 x2) fun v6 S5 =>
    if v6 = (0 : Int32) then
      rX7_needs_14 N S5
    else
      (zgr S5 x0 7 7).bind fun v7 =>
      (zgr S5 x0 7 7).bind fun v8 =>
      (zrc S5 v8 2).bind fun u9 =>
      zb2 (rX2_way N S5 v8 x1) fun v11 S10 =>
      (zrc S10 v7 2).bind fun u12 =>
      zb2 (rX2_textsOn N S10 v7 v11) fun v14 S13 =>
      if x2 = (0 : Int32) then
        rX7_needs_49 N S13 v14
      else
        (zgr S13 x0 7 0).bind fun v15 =>
        (zgi S13 v15 6 3).bind fun v16 =>
        rX7_needs_49 N S13 (v14 &&& v16)
def rX7_needs (N : Nat) (S : zS) (x0 : Nat) (x1 : Int32) (x2 : Int32) : Option (Int32 × zS) := rX7_needs_0 N S x0 x1 x2
def rX7_forge_14 (N : Nat) (S : zS) : Option (Int32 × zS) :=
  some ((-1 : Int32), S)
def rX7_forge_0 (N : Nat) (S : zS) (x0 : Nat) (x1 : Int32) (x2 : Int32) : Option (Int32 × zS) :=
  zb2 (rX7_isMaker N S x1) fun v2 S1 =>
  if v2 = (0 : Int32) then
    rX7_forge_14 N S1
  else
    zb2 (rX7_isBit N S1 x2) fun v4 S3 =>
    if v4 = (0 : Int32) then
      rX7_forge_14 N S3
    else
      (zgr S3 x0 7 7).bind fun v5 =>
      (zgi S3 v5 2 2).bind fun v6 =>
      zlet ((zush v6 x1) &&& (1 : Int32)) fun v7 =>
      (zgr S3 x0 7 7).bind fun v8 =>
      (zgr S3 x0 7 7).bind fun v9 =>
      (zgi S3 v9 2 2).bind fun v10 =>
      zb2 (rX7_withBit N S3 v10 x1 x2) fun v12 S11 =>
      (zpi S11 v8 2 2 v12).bind fun S13 =>
      some (v7, S13)
def rX7_forge (N : Nat) (S : zS) (x0 : Nat) (x1 : Int32) (x2 : Int32) : Option (Int32 × zS) := rX7_forge_0 N S x0 x1 x2
def rX7_trust_33 (N : Nat) (S : zS) (y0 : Int32) : Option (Int32 × zS) :=
  some (y0, S)
def rX7_trust_0 (N : Nat) (S : zS) (x0 : Nat) (x1 : Int32) : Option (Int32 × zS) :=
  zb2 (rX7_isMaker N S x1) fun v2 S1 =>
  if v2 = (0 : Int32) then
    some ((-1 : Int32), S1)
  else
    (zgr S1 x0 7 7).bind fun v3 =>
    (zrc S1 v3 2).bind fun u4 =>
    zb2 (rX2_way N S1 v3 x1) fun v6 S5 =>
    (zgr S5 x0 7 7).bind fun v7 =>
    (zgi S5 v7 2 2).bind fun v8 =>
    if (v6 &&& v8) = (0 : Int32) then
      rX7_trust_33 N S5 (1 : Int32)
    else
      rX7_trust_33 N S5 (0 : Int32)
def rX7_trust (N : Nat) (S : zS) (x0 : Nat) (x1 : Int32) : Option (Int32 × zS) := rX7_trust_0 N S x0 x1
def rX7_heirs_42 (N : Nat) (K13 : zS × Nat × Int32 × Int32 × Int32 → Option (Int32 × zS)) (S : zS) (x0 : Nat) (x1 : Int32) (x2 : Int32) (x3 : Int32) : Option (Int32 × zS) :=
  K13 (S, x0, x1, x2, (x3 + (1 : Int32)))
def rX7_heirs_13 (N : Nat) (K13 : zS × Nat × Int32 × Int32 × Int32 → Option (Int32 × zS)) (S : zS) (x0 : Nat) (x1 : Int32) (x2 : Int32) (x3 : Int32) : Option (Int32 × zS) :=
  if (30 : Int32) ≤ x3 then
    some (x2, S)
  else
    if x3 = x1 then
      rX7_heirs_42 N K13 S x0 x1 x2 x3
    else
      (zgr S x0 7 7).bind fun v1 =>
      (zrc S v1 2).bind fun u2 =>
      zb2 (rX2_way N S v1 x3) fun v4 S3 =>
      if ((zush v4 x1) &&& (1 : Int32)) = (0 : Int32) then
        rX7_heirs_42 N K13 S3 x0 x1 x2 x3
      else
        rX7_heirs_42 N K13 S3 x0 x1 (x2 + (1 : Int32)) x3
def rlX7_heirs_13 (N : Nat)  (S : zS) (x0 : Nat) (x1 : Int32) (x2 : Int32) (x3 : Int32) : Option (Int32 × zS) := zloop (fun K y => rX7_heirs_13 N K y.1 y.2.1 y.2.2.1 y.2.2.2.1 y.2.2.2.2) N (S, x0, x1, x2, x3)
def rX7_heirs_0 (N : Nat) (S : zS) (x0 : Nat) (x1 : Int32) : Option (Int32 × zS) :=
  zb2 (rX7_isMaker N S x1) fun v6 S5 =>
  if v6 = (0 : Int32) then
    some ((-1 : Int32), S5)
  else
    rlX7_heirs_13 N S5 x0 x1 (0 : Int32) (0 : Int32)
def rX7_heirs (N : Nat) (S : zS) (x0 : Nat) (x1 : Int32) : Option (Int32 × zS) := rX7_heirs_0 N S x0 x1
def rX7_count_0 (N : Nat) (S : zS) (x0 : Nat) (x1 : Int32) : Option (Int32 × zS) :=
  if x1 = (0 : Int32) then
    (zgr S x0 7 0).bind fun v1 =>
    (zgi S v1 6 2).bind fun v2 =>
    some (v2, S)
  else
  if x1 = (1 : Int32) then
    (zgr S x0 7 1).bind fun v3 =>
    (zgi S v3 4 8).bind fun v4 =>
    some (v4, S)
  else
  if x1 = (2 : Int32) then
    (zgr S x0 7 7).bind fun v5 =>
    (zrc S v5 2).bind fun u6 =>
    zb2 (rX2_seeds N S v5) fun v8 S7 =>
    some (v8, S7)
  else
  if x1 = (3 : Int32) then
    (zgr S x0 7 7).bind fun v9 =>
    (zgi S v9 2 2).bind fun v10 =>
    zb2 (fJ6_bitCount_0f7a4 N S v10) fun v12 S11 =>
    some (v12, S11)
  else
  if x1 = (4 : Int32) then
    (zgr S x0 7 0).bind fun v13 =>
    (zgr S v13 6 0).bind fun v14 =>
    (zgi S v14 5 2).bind fun v15 =>
    some (v15, S)
  else
  if x1 = (5 : Int32) then
    (zgr S x0 7 0).bind fun v16 =>
    (zgi S v16 6 3).bind fun v17 =>
    zb2 (fJ6_bitCount_0f7a4 N S v17) fun v19 S18 =>
    some (v19, S18)
  else
  some ((-1 : Int32), S)
def rX7_count (N : Nat) (S : zS) (x0 : Nat) (x1 : Int32) : Option (Int32 × zS) := rX7_count_0 N S x0 x1
def fX8_init_0 (N MC MS : Nat) (S : zS) (z : Nat) (q : Nat) (w : Nat) (x0 : Nat) : Option (zS × Nat) :=
  (zlg (60 : Int32)).bind fun k1 =>
  (zbud MC MS q w 1 k1).bind fun u2 =>
  zlet (zad S z 9 k1) fun S3 =>
  (zpr S3 x0 8 1 z).bind fun S4 =>
  (zlg (20 : Int32)).bind fun k5 =>
  (zbud MC MS (q + 1) (w + k1) 1 k5).bind fun u6 =>
  zlet (zad S4 (z + 1) 9 k5) fun S7 =>
  (zpr S7 x0 8 4 (z + 1)).bind fun S8 =>
  (zlg (1200 : Int32)).bind fun k9 =>
  (zbud MC MS ((q + 1) + 1) ((w + k1) + k5) 1 k9).bind fun u10 =>
  zlet (zad S8 ((z + 1) + 1) 9 k9) fun S11 =>
  (zpr S11 x0 8 5 ((z + 1) + 1)).bind fun S12 =>
  (zlg (20 : Int32)).bind fun k13 =>
  (zbud MC MS (((q + 1) + 1) + 1) (((w + k1) + k5) + k9) 1 k13).bind fun u14 =>
  zlet (zad S12 (((z + 1) + 1) + 1) 11 k13) fun S15 =>
  (zpr S15 x0 8 6 (((z + 1) + 1) + 1)).bind fun S16 =>
  (zlg (64 : Int32)).bind fun k17 =>
  (zbud MC MS ((((q + 1) + 1) + 1) + 1) ((((w + k1) + k5) + k9) + k13) 1 k17).bind fun u18 =>
  zlet (zad S16 ((((z + 1) + 1) + 1) + 1) 9 k17) fun S19 =>
  (zpr S19 x0 8 7 ((((z + 1) + 1) + 1) + 1)).bind fun S20 =>
  (zlg (24 : Int32)).bind fun k21 =>
  (zbud MC MS (((((q + 1) + 1) + 1) + 1) + 1) (((((w + k1) + k5) + k9) + k13) + k17) 1 k21).bind fun u22 =>
  zlet (zad S20 (((((z + 1) + 1) + 1) + 1) + 1) 9 k21) fun S23 =>
  (zpr S23 x0 8 9 (((((z + 1) + 1) + 1) + 1) + 1)).bind fun S24 =>
  (zlg (24 : Int32)).bind fun k25 =>
  (zbud MC MS ((((((q + 1) + 1) + 1) + 1) + 1) + 1) ((((((w + k1) + k5) + k9) + k13) + k17) + k21) 1 k25).bind fun u26 =>
  zlet (zad S24 ((((((z + 1) + 1) + 1) + 1) + 1) + 1) 9 k25) fun S27 =>
  (zpr S27 x0 8 10 ((((((z + 1) + 1) + 1) + 1) + 1) + 1)).bind fun S28 =>
  (zlg (24 : Int32)).bind fun k29 =>
  (zbud MC MS (((((((q + 1) + 1) + 1) + 1) + 1) + 1) + 1) (((((((w + k1) + k5) + k9) + k13) + k17) + k21) + k25) 1 k29).bind fun u30 =>
  zlet (zad S28 (((((((z + 1) + 1) + 1) + 1) + 1) + 1) + 1) 9 k29) fun S31 =>
  (zpr S31 x0 8 11 (((((((z + 1) + 1) + 1) + 1) + 1) + 1) + 1)).bind fun S32 =>
  (zlg (24 : Int32)).bind fun k33 =>
  (zbud MC MS ((((((((q + 1) + 1) + 1) + 1) + 1) + 1) + 1) + 1) ((((((((w + k1) + k5) + k9) + k13) + k17) + k21) + k25) + k29) 1 k33).bind fun u34 =>
  zlet (zad S32 ((((((((z + 1) + 1) + 1) + 1) + 1) + 1) + 1) + 1) 9 k33) fun S35 =>
  (zpr S35 x0 8 12 ((((((((z + 1) + 1) + 1) + 1) + 1) + 1) + 1) + 1)).bind fun S36 =>
  (zlg (96 : Int32)).bind fun k37 =>
  (zbud MC MS (((((((((q + 1) + 1) + 1) + 1) + 1) + 1) + 1) + 1) + 1) (((((((((w + k1) + k5) + k9) + k13) + k17) + k21) + k25) + k29) + k33) 1 k37).bind fun u38 =>
  zlet (zad S36 (((((((((z + 1) + 1) + 1) + 1) + 1) + 1) + 1) + 1) + 1) 9 k37) fun S39 =>
  (zpr S39 x0 8 13 (((((((((z + 1) + 1) + 1) + 1) + 1) + 1) + 1) + 1) + 1)).bind fun S40 =>
  (zlg (8 : Int32)).bind fun k41 =>
  (zbud MC MS ((((((((((q + 1) + 1) + 1) + 1) + 1) + 1) + 1) + 1) + 1) + 1) ((((((((((w + k1) + k5) + k9) + k13) + k17) + k21) + k25) + k29) + k33) + k37) 1 k41).bind fun u42 =>
  zlet (zad S40 ((((((((((z + 1) + 1) + 1) + 1) + 1) + 1) + 1) + 1) + 1) + 1) 9 k41) fun S43 =>
  (zpr S43 x0 8 14 ((((((((((z + 1) + 1) + 1) + 1) + 1) + 1) + 1) + 1) + 1) + 1)).bind fun S44 =>
  (zlg (48 : Int32)).bind fun k45 =>
  (zbud MC MS (((((((((((q + 1) + 1) + 1) + 1) + 1) + 1) + 1) + 1) + 1) + 1) + 1) (((((((((((w + k1) + k5) + k9) + k13) + k17) + k21) + k25) + k29) + k33) + k37) + k41) 1 k45).bind fun u46 =>
  zlet (zad S44 (((((((((((z + 1) + 1) + 1) + 1) + 1) + 1) + 1) + 1) + 1) + 1) + 1) 9 k45) fun S47 =>
  (zpr S47 x0 8 15 (((((((((((z + 1) + 1) + 1) + 1) + 1) + 1) + 1) + 1) + 1) + 1) + 1)).bind fun S48 =>
  (zlg (9600 : Int32)).bind fun k49 =>
  (zbud MC MS ((((((((((((q + 1) + 1) + 1) + 1) + 1) + 1) + 1) + 1) + 1) + 1) + 1) + 1) ((((((((((((w + k1) + k5) + k9) + k13) + k17) + k21) + k25) + k29) + k33) + k37) + k41) + k45) 1 k49).bind fun u50 =>
  zlet (zad S48 ((((((((((((z + 1) + 1) + 1) + 1) + 1) + 1) + 1) + 1) + 1) + 1) + 1) + 1) 9 k49) fun S51 =>
  (zpr S51 x0 8 16 ((((((((((((z + 1) + 1) + 1) + 1) + 1) + 1) + 1) + 1) + 1) + 1) + 1) + 1)).bind fun S52 =>
  (zlg (800 : Int32)).bind fun k53 =>
  (zbud MC MS (((((((((((((q + 1) + 1) + 1) + 1) + 1) + 1) + 1) + 1) + 1) + 1) + 1) + 1) + 1) (((((((((((((w + k1) + k5) + k9) + k13) + k17) + k21) + k25) + k29) + k33) + k37) + k41) + k45) + k49) 1 k53).bind fun u54 =>
  zlet (zad S52 (((((((((((((z + 1) + 1) + 1) + 1) + 1) + 1) + 1) + 1) + 1) + 1) + 1) + 1) + 1) 9 k53) fun S55 =>
  (zpr S55 x0 8 17 (((((((((((((z + 1) + 1) + 1) + 1) + 1) + 1) + 1) + 1) + 1) + 1) + 1) + 1) + 1)).bind fun S56 =>
  (zlg (256 : Int32)).bind fun k57 =>
  (zbud MC MS ((((((((((((((q + 1) + 1) + 1) + 1) + 1) + 1) + 1) + 1) + 1) + 1) + 1) + 1) + 1) + 1) ((((((((((((((w + k1) + k5) + k9) + k13) + k17) + k21) + k25) + k29) + k33) + k37) + k41) + k45) + k49) + k53) 1 k57).bind fun u58 =>
  zlet (zad S56 ((((((((((((((z + 1) + 1) + 1) + 1) + 1) + 1) + 1) + 1) + 1) + 1) + 1) + 1) + 1) + 1) 9 k57) fun S59 =>
  (zpr S59 x0 8 19 ((((((((((((((z + 1) + 1) + 1) + 1) + 1) + 1) + 1) + 1) + 1) + 1) + 1) + 1) + 1) + 1)).bind fun S60 =>
  (zlg (24 : Int32)).bind fun k61 =>
  (zbud MC MS (((((((((((((((q + 1) + 1) + 1) + 1) + 1) + 1) + 1) + 1) + 1) + 1) + 1) + 1) + 1) + 1) + 1) (((((((((((((((w + k1) + k5) + k9) + k13) + k17) + k21) + k25) + k29) + k33) + k37) + k41) + k45) + k49) + k53) + k57) 1 k61).bind fun u62 =>
  zlet (zad S60 (((((((((((((((z + 1) + 1) + 1) + 1) + 1) + 1) + 1) + 1) + 1) + 1) + 1) + 1) + 1) + 1) + 1) 9 k61) fun S63 =>
  (zpr S63 x0 8 20 (((((((((((((((z + 1) + 1) + 1) + 1) + 1) + 1) + 1) + 1) + 1) + 1) + 1) + 1) + 1) + 1) + 1)).bind fun S64 =>
  (zlg (20 : Int32)).bind fun k65 =>
  (zbud MC MS ((((((((((((((((q + 1) + 1) + 1) + 1) + 1) + 1) + 1) + 1) + 1) + 1) + 1) + 1) + 1) + 1) + 1) + 1) ((((((((((((((((w + k1) + k5) + k9) + k13) + k17) + k21) + k25) + k29) + k33) + k37) + k41) + k45) + k49) + k53) + k57) + k61) 1 k65).bind fun u66 =>
  zlet (zad S64 ((((((((((((((((z + 1) + 1) + 1) + 1) + 1) + 1) + 1) + 1) + 1) + 1) + 1) + 1) + 1) + 1) + 1) + 1) 9 k65) fun S67 =>
  (zpr S67 x0 8 21 ((((((((((((((((z + 1) + 1) + 1) + 1) + 1) + 1) + 1) + 1) + 1) + 1) + 1) + 1) + 1) + 1) + 1) + 1)).bind fun S68 =>
  (zlg (65536 : Int32)).bind fun k69 =>
  (zbud MC MS (((((((((((((((((q + 1) + 1) + 1) + 1) + 1) + 1) + 1) + 1) + 1) + 1) + 1) + 1) + 1) + 1) + 1) + 1) + 1) (((((((((((((((((w + k1) + k5) + k9) + k13) + k17) + k21) + k25) + k29) + k33) + k37) + k41) + k45) + k49) + k53) + k57) + k61) + k65) 1 k69).bind fun u70 =>
  zlet (zad S68 (((((((((((((((((z + 1) + 1) + 1) + 1) + 1) + 1) + 1) + 1) + 1) + 1) + 1) + 1) + 1) + 1) + 1) + 1) + 1) 10 k69) fun S71 =>
  (zpr S71 x0 8 22 (((((((((((((((((z + 1) + 1) + 1) + 1) + 1) + 1) + 1) + 1) + 1) + 1) + 1) + 1) + 1) + 1) + 1) + 1) + 1)).bind fun S72 =>
  (zlg (40401 : Int32)).bind fun k73 =>
  (zbud MC MS ((((((((((((((((((q + 1) + 1) + 1) + 1) + 1) + 1) + 1) + 1) + 1) + 1) + 1) + 1) + 1) + 1) + 1) + 1) + 1) + 1) ((((((((((((((((((w + k1) + k5) + k9) + k13) + k17) + k21) + k25) + k29) + k33) + k37) + k41) + k45) + k49) + k53) + k57) + k61) + k65) + k69) 1 k73).bind fun u74 =>
  zlet (zad S72 ((((((((((((((((((z + 1) + 1) + 1) + 1) + 1) + 1) + 1) + 1) + 1) + 1) + 1) + 1) + 1) + 1) + 1) + 1) + 1) + 1) 9 k73) fun S75 =>
  (zpr S75 x0 8 23 ((((((((((((((((((z + 1) + 1) + 1) + 1) + 1) + 1) + 1) + 1) + 1) + 1) + 1) + 1) + 1) + 1) + 1) + 1) + 1) + 1)).bind fun S76 =>
  (zlg (400 : Int32)).bind fun k77 =>
  (zbud MC MS (((((((((((((((((((q + 1) + 1) + 1) + 1) + 1) + 1) + 1) + 1) + 1) + 1) + 1) + 1) + 1) + 1) + 1) + 1) + 1) + 1) + 1) (((((((((((((((((((w + k1) + k5) + k9) + k13) + k17) + k21) + k25) + k29) + k33) + k37) + k41) + k45) + k49) + k53) + k57) + k61) + k65) + k69) + k73) 1 k77).bind fun u78 =>
  zlet (zad S76 (((((((((((((((((((z + 1) + 1) + 1) + 1) + 1) + 1) + 1) + 1) + 1) + 1) + 1) + 1) + 1) + 1) + 1) + 1) + 1) + 1) + 1) 9 k77) fun S79 =>
  (zpr S79 x0 8 25 (((((((((((((((((((z + 1) + 1) + 1) + 1) + 1) + 1) + 1) + 1) + 1) + 1) + 1) + 1) + 1) + 1) + 1) + 1) + 1) + 1) + 1)).bind fun S80 =>
  (zlg (400 : Int32)).bind fun k81 =>
  (zbud MC MS ((((((((((((((((((((q + 1) + 1) + 1) + 1) + 1) + 1) + 1) + 1) + 1) + 1) + 1) + 1) + 1) + 1) + 1) + 1) + 1) + 1) + 1) + 1) ((((((((((((((((((((w + k1) + k5) + k9) + k13) + k17) + k21) + k25) + k29) + k33) + k37) + k41) + k45) + k49) + k53) + k57) + k61) + k65) + k69) + k73) + k77) 1 k81).bind fun u82 =>
  zlet (zad S80 ((((((((((((((((((((z + 1) + 1) + 1) + 1) + 1) + 1) + 1) + 1) + 1) + 1) + 1) + 1) + 1) + 1) + 1) + 1) + 1) + 1) + 1) + 1) 9 k81) fun S83 =>
  (zpr S83 x0 8 26 ((((((((((((((((((((z + 1) + 1) + 1) + 1) + 1) + 1) + 1) + 1) + 1) + 1) + 1) + 1) + 1) + 1) + 1) + 1) + 1) + 1) + 1) + 1)).bind fun S84 =>
  (zlg (400 : Int32)).bind fun k85 =>
  (zbud MC MS (((((((((((((((((((((q + 1) + 1) + 1) + 1) + 1) + 1) + 1) + 1) + 1) + 1) + 1) + 1) + 1) + 1) + 1) + 1) + 1) + 1) + 1) + 1) + 1) (((((((((((((((((((((w + k1) + k5) + k9) + k13) + k17) + k21) + k25) + k29) + k33) + k37) + k41) + k45) + k49) + k53) + k57) + k61) + k65) + k69) + k73) + k77) + k81) 1 k85).bind fun u86 =>
  zlet (zad S84 (((((((((((((((((((((z + 1) + 1) + 1) + 1) + 1) + 1) + 1) + 1) + 1) + 1) + 1) + 1) + 1) + 1) + 1) + 1) + 1) + 1) + 1) + 1) + 1) 9 k85) fun S87 =>
  (zpr S87 x0 8 27 (((((((((((((((((((((z + 1) + 1) + 1) + 1) + 1) + 1) + 1) + 1) + 1) + 1) + 1) + 1) + 1) + 1) + 1) + 1) + 1) + 1) + 1) + 1) + 1)).bind fun S88 =>
  (zlg (30 : Int32)).bind fun k89 =>
  (zbud MC MS ((((((((((((((((((((((q + 1) + 1) + 1) + 1) + 1) + 1) + 1) + 1) + 1) + 1) + 1) + 1) + 1) + 1) + 1) + 1) + 1) + 1) + 1) + 1) + 1) + 1) ((((((((((((((((((((((w + k1) + k5) + k9) + k13) + k17) + k21) + k25) + k29) + k33) + k37) + k41) + k45) + k49) + k53) + k57) + k61) + k65) + k69) + k73) + k77) + k81) + k85) 1 k89).bind fun u90 =>
  zlet (zad S88 ((((((((((((((((((((((z + 1) + 1) + 1) + 1) + 1) + 1) + 1) + 1) + 1) + 1) + 1) + 1) + 1) + 1) + 1) + 1) + 1) + 1) + 1) + 1) + 1) + 1) 9 k89) fun S91 =>
  (zis S91 ((((((((((((((((((((((z + 1) + 1) + 1) + 1) + 1) + 1) + 1) + 1) + 1) + 1) + 1) + 1) + 1) + 1) + 1) + 1) + 1) + 1) + 1) + 1) + 1) + 1) (0 : Int32) (-1 : Int32)).bind fun S92 =>
  (zis S92 ((((((((((((((((((((((z + 1) + 1) + 1) + 1) + 1) + 1) + 1) + 1) + 1) + 1) + 1) + 1) + 1) + 1) + 1) + 1) + 1) + 1) + 1) + 1) + 1) + 1) (1 : Int32) (-1 : Int32)).bind fun S93 =>
  (zis S93 ((((((((((((((((((((((z + 1) + 1) + 1) + 1) + 1) + 1) + 1) + 1) + 1) + 1) + 1) + 1) + 1) + 1) + 1) + 1) + 1) + 1) + 1) + 1) + 1) + 1) (2 : Int32) (-1 : Int32)).bind fun S94 =>
  (zis S94 ((((((((((((((((((((((z + 1) + 1) + 1) + 1) + 1) + 1) + 1) + 1) + 1) + 1) + 1) + 1) + 1) + 1) + 1) + 1) + 1) + 1) + 1) + 1) + 1) + 1) (3 : Int32) (-1 : Int32)).bind fun S95 =>
  (zis S95 ((((((((((((((((((((((z + 1) + 1) + 1) + 1) + 1) + 1) + 1) + 1) + 1) + 1) + 1) + 1) + 1) + 1) + 1) + 1) + 1) + 1) + 1) + 1) + 1) + 1) (4 : Int32) (-1 : Int32)).bind fun S96 =>
  (zis S96 ((((((((((((((((((((((z + 1) + 1) + 1) + 1) + 1) + 1) + 1) + 1) + 1) + 1) + 1) + 1) + 1) + 1) + 1) + 1) + 1) + 1) + 1) + 1) + 1) + 1) (5 : Int32) (-1 : Int32)).bind fun S97 =>
  (zis S97 ((((((((((((((((((((((z + 1) + 1) + 1) + 1) + 1) + 1) + 1) + 1) + 1) + 1) + 1) + 1) + 1) + 1) + 1) + 1) + 1) + 1) + 1) + 1) + 1) + 1) (6 : Int32) (-1 : Int32)).bind fun S98 =>
  (zis S98 ((((((((((((((((((((((z + 1) + 1) + 1) + 1) + 1) + 1) + 1) + 1) + 1) + 1) + 1) + 1) + 1) + 1) + 1) + 1) + 1) + 1) + 1) + 1) + 1) + 1) (7 : Int32) (-1 : Int32)).bind fun S99 =>
  (zis S99 ((((((((((((((((((((((z + 1) + 1) + 1) + 1) + 1) + 1) + 1) + 1) + 1) + 1) + 1) + 1) + 1) + 1) + 1) + 1) + 1) + 1) + 1) + 1) + 1) + 1) (8 : Int32) (-1 : Int32)).bind fun S100 =>
  (zis S100 ((((((((((((((((((((((z + 1) + 1) + 1) + 1) + 1) + 1) + 1) + 1) + 1) + 1) + 1) + 1) + 1) + 1) + 1) + 1) + 1) + 1) + 1) + 1) + 1) + 1) (9 : Int32) (-1 : Int32)).bind fun S101 =>
  (zis S101 ((((((((((((((((((((((z + 1) + 1) + 1) + 1) + 1) + 1) + 1) + 1) + 1) + 1) + 1) + 1) + 1) + 1) + 1) + 1) + 1) + 1) + 1) + 1) + 1) + 1) (10 : Int32) (-1 : Int32)).bind fun S102 =>
  (zis S102 ((((((((((((((((((((((z + 1) + 1) + 1) + 1) + 1) + 1) + 1) + 1) + 1) + 1) + 1) + 1) + 1) + 1) + 1) + 1) + 1) + 1) + 1) + 1) + 1) + 1) (11 : Int32) (-1 : Int32)).bind fun S103 =>
  (zis S103 ((((((((((((((((((((((z + 1) + 1) + 1) + 1) + 1) + 1) + 1) + 1) + 1) + 1) + 1) + 1) + 1) + 1) + 1) + 1) + 1) + 1) + 1) + 1) + 1) + 1) (12 : Int32) (-1 : Int32)).bind fun S104 =>
  (zis S104 ((((((((((((((((((((((z + 1) + 1) + 1) + 1) + 1) + 1) + 1) + 1) + 1) + 1) + 1) + 1) + 1) + 1) + 1) + 1) + 1) + 1) + 1) + 1) + 1) + 1) (13 : Int32) (-1 : Int32)).bind fun S105 =>
  (zis S105 ((((((((((((((((((((((z + 1) + 1) + 1) + 1) + 1) + 1) + 1) + 1) + 1) + 1) + 1) + 1) + 1) + 1) + 1) + 1) + 1) + 1) + 1) + 1) + 1) + 1) (14 : Int32) (-1 : Int32)).bind fun S106 =>
  (zis S106 ((((((((((((((((((((((z + 1) + 1) + 1) + 1) + 1) + 1) + 1) + 1) + 1) + 1) + 1) + 1) + 1) + 1) + 1) + 1) + 1) + 1) + 1) + 1) + 1) + 1) (15 : Int32) (-1 : Int32)).bind fun S107 =>
  (zis S107 ((((((((((((((((((((((z + 1) + 1) + 1) + 1) + 1) + 1) + 1) + 1) + 1) + 1) + 1) + 1) + 1) + 1) + 1) + 1) + 1) + 1) + 1) + 1) + 1) + 1) (16 : Int32) (-1 : Int32)).bind fun S108 =>
  (zis S108 ((((((((((((((((((((((z + 1) + 1) + 1) + 1) + 1) + 1) + 1) + 1) + 1) + 1) + 1) + 1) + 1) + 1) + 1) + 1) + 1) + 1) + 1) + 1) + 1) + 1) (17 : Int32) (-1 : Int32)).bind fun S109 =>
  (zis S109 ((((((((((((((((((((((z + 1) + 1) + 1) + 1) + 1) + 1) + 1) + 1) + 1) + 1) + 1) + 1) + 1) + 1) + 1) + 1) + 1) + 1) + 1) + 1) + 1) + 1) (18 : Int32) (-1 : Int32)).bind fun S110 =>
  (zis S110 ((((((((((((((((((((((z + 1) + 1) + 1) + 1) + 1) + 1) + 1) + 1) + 1) + 1) + 1) + 1) + 1) + 1) + 1) + 1) + 1) + 1) + 1) + 1) + 1) + 1) (19 : Int32) (-1 : Int32)).bind fun S111 =>
  (zis S111 ((((((((((((((((((((((z + 1) + 1) + 1) + 1) + 1) + 1) + 1) + 1) + 1) + 1) + 1) + 1) + 1) + 1) + 1) + 1) + 1) + 1) + 1) + 1) + 1) + 1) (20 : Int32) (-1 : Int32)).bind fun S112 =>
  (zis S112 ((((((((((((((((((((((z + 1) + 1) + 1) + 1) + 1) + 1) + 1) + 1) + 1) + 1) + 1) + 1) + 1) + 1) + 1) + 1) + 1) + 1) + 1) + 1) + 1) + 1) (21 : Int32) (-1 : Int32)).bind fun S113 =>
  (zis S113 ((((((((((((((((((((((z + 1) + 1) + 1) + 1) + 1) + 1) + 1) + 1) + 1) + 1) + 1) + 1) + 1) + 1) + 1) + 1) + 1) + 1) + 1) + 1) + 1) + 1) (22 : Int32) (-1 : Int32)).bind fun S114 =>
  (zis S114 ((((((((((((((((((((((z + 1) + 1) + 1) + 1) + 1) + 1) + 1) + 1) + 1) + 1) + 1) + 1) + 1) + 1) + 1) + 1) + 1) + 1) + 1) + 1) + 1) + 1) (23 : Int32) (-1 : Int32)).bind fun S115 =>
  (zis S115 ((((((((((((((((((((((z + 1) + 1) + 1) + 1) + 1) + 1) + 1) + 1) + 1) + 1) + 1) + 1) + 1) + 1) + 1) + 1) + 1) + 1) + 1) + 1) + 1) + 1) (24 : Int32) (-1 : Int32)).bind fun S116 =>
  (zis S116 ((((((((((((((((((((((z + 1) + 1) + 1) + 1) + 1) + 1) + 1) + 1) + 1) + 1) + 1) + 1) + 1) + 1) + 1) + 1) + 1) + 1) + 1) + 1) + 1) + 1) (25 : Int32) (-1 : Int32)).bind fun S117 =>
  (zis S117 ((((((((((((((((((((((z + 1) + 1) + 1) + 1) + 1) + 1) + 1) + 1) + 1) + 1) + 1) + 1) + 1) + 1) + 1) + 1) + 1) + 1) + 1) + 1) + 1) + 1) (26 : Int32) (-1 : Int32)).bind fun S118 =>
  (zis S118 ((((((((((((((((((((((z + 1) + 1) + 1) + 1) + 1) + 1) + 1) + 1) + 1) + 1) + 1) + 1) + 1) + 1) + 1) + 1) + 1) + 1) + 1) + 1) + 1) + 1) (27 : Int32) (-1 : Int32)).bind fun S119 =>
  (zis S119 ((((((((((((((((((((((z + 1) + 1) + 1) + 1) + 1) + 1) + 1) + 1) + 1) + 1) + 1) + 1) + 1) + 1) + 1) + 1) + 1) + 1) + 1) + 1) + 1) + 1) (28 : Int32) (-1 : Int32)).bind fun S120 =>
  (zis S120 ((((((((((((((((((((((z + 1) + 1) + 1) + 1) + 1) + 1) + 1) + 1) + 1) + 1) + 1) + 1) + 1) + 1) + 1) + 1) + 1) + 1) + 1) + 1) + 1) + 1) (29 : Int32) (-1 : Int32)).bind fun S121 =>
  (zpr S121 x0 8 28 ((((((((((((((((((((((z + 1) + 1) + 1) + 1) + 1) + 1) + 1) + 1) + 1) + 1) + 1) + 1) + 1) + 1) + 1) + 1) + 1) + 1) + 1) + 1) + 1) + 1)).bind fun S122 =>
  (zlg (30 : Int32)).bind fun k123 =>
  (zbud MC MS (((((((((((((((((((((((q + 1) + 1) + 1) + 1) + 1) + 1) + 1) + 1) + 1) + 1) + 1) + 1) + 1) + 1) + 1) + 1) + 1) + 1) + 1) + 1) + 1) + 1) + 1) (((((((((((((((((((((((w + k1) + k5) + k9) + k13) + k17) + k21) + k25) + k29) + k33) + k37) + k41) + k45) + k49) + k53) + k57) + k61) + k65) + k69) + k73) + k77) + k81) + k85) + k89) 1 k123).bind fun u124 =>
  zlet (zad S122 (((((((((((((((((((((((z + 1) + 1) + 1) + 1) + 1) + 1) + 1) + 1) + 1) + 1) + 1) + 1) + 1) + 1) + 1) + 1) + 1) + 1) + 1) + 1) + 1) + 1) + 1) 9 k123) fun S125 =>
  (zpr S125 x0 8 29 (((((((((((((((((((((((z + 1) + 1) + 1) + 1) + 1) + 1) + 1) + 1) + 1) + 1) + 1) + 1) + 1) + 1) + 1) + 1) + 1) + 1) + 1) + 1) + 1) + 1) + 1)).bind fun S126 =>
  (zlg (30 : Int32)).bind fun k127 =>
  (zbud MC MS ((((((((((((((((((((((((q + 1) + 1) + 1) + 1) + 1) + 1) + 1) + 1) + 1) + 1) + 1) + 1) + 1) + 1) + 1) + 1) + 1) + 1) + 1) + 1) + 1) + 1) + 1) + 1) ((((((((((((((((((((((((w + k1) + k5) + k9) + k13) + k17) + k21) + k25) + k29) + k33) + k37) + k41) + k45) + k49) + k53) + k57) + k61) + k65) + k69) + k73) + k77) + k81) + k85) + k89) + k123) 1 k127).bind fun u128 =>
  zlet (zad S126 ((((((((((((((((((((((((z + 1) + 1) + 1) + 1) + 1) + 1) + 1) + 1) + 1) + 1) + 1) + 1) + 1) + 1) + 1) + 1) + 1) + 1) + 1) + 1) + 1) + 1) + 1) + 1) 11 k127) fun S129 =>
  (zpr S129 x0 8 30 ((((((((((((((((((((((((z + 1) + 1) + 1) + 1) + 1) + 1) + 1) + 1) + 1) + 1) + 1) + 1) + 1) + 1) + 1) + 1) + 1) + 1) + 1) + 1) + 1) + 1) + 1) + 1)).bind fun S130 =>
  (zlg (30 : Int32)).bind fun k131 =>
  (zbud MC MS (((((((((((((((((((((((((q + 1) + 1) + 1) + 1) + 1) + 1) + 1) + 1) + 1) + 1) + 1) + 1) + 1) + 1) + 1) + 1) + 1) + 1) + 1) + 1) + 1) + 1) + 1) + 1) + 1) (((((((((((((((((((((((((w + k1) + k5) + k9) + k13) + k17) + k21) + k25) + k29) + k33) + k37) + k41) + k45) + k49) + k53) + k57) + k61) + k65) + k69) + k73) + k77) + k81) + k85) + k89) + k123) + k127) 1 k131).bind fun u132 =>
  zlet (zad S130 (((((((((((((((((((((((((z + 1) + 1) + 1) + 1) + 1) + 1) + 1) + 1) + 1) + 1) + 1) + 1) + 1) + 1) + 1) + 1) + 1) + 1) + 1) + 1) + 1) + 1) + 1) + 1) + 1) 11 k131) fun S133 =>
  (zpr S133 x0 8 31 (((((((((((((((((((((((((z + 1) + 1) + 1) + 1) + 1) + 1) + 1) + 1) + 1) + 1) + 1) + 1) + 1) + 1) + 1) + 1) + 1) + 1) + 1) + 1) + 1) + 1) + 1) + 1) + 1)).bind fun S134 =>
  (zlg (20 : Int32)).bind fun k135 =>
  (zbud MC MS ((((((((((((((((((((((((((q + 1) + 1) + 1) + 1) + 1) + 1) + 1) + 1) + 1) + 1) + 1) + 1) + 1) + 1) + 1) + 1) + 1) + 1) + 1) + 1) + 1) + 1) + 1) + 1) + 1) + 1) ((((((((((((((((((((((((((w + k1) + k5) + k9) + k13) + k17) + k21) + k25) + k29) + k33) + k37) + k41) + k45) + k49) + k53) + k57) + k61) + k65) + k69) + k73) + k77) + k81) + k85) + k89) + k123) + k127) + k131) 1 k135).bind fun u136 =>
  zlet (zad S134 ((((((((((((((((((((((((((z + 1) + 1) + 1) + 1) + 1) + 1) + 1) + 1) + 1) + 1) + 1) + 1) + 1) + 1) + 1) + 1) + 1) + 1) + 1) + 1) + 1) + 1) + 1) + 1) + 1) + 1) 11 k135) fun S137 =>
  (zpr S137 x0 8 32 ((((((((((((((((((((((((((z + 1) + 1) + 1) + 1) + 1) + 1) + 1) + 1) + 1) + 1) + 1) + 1) + 1) + 1) + 1) + 1) + 1) + 1) + 1) + 1) + 1) + 1) + 1) + 1) + 1) + 1)).bind fun S138 =>
  zfin MC MS (((((((((((((((((((((((((((q + 1) + 1) + 1) + 1) + 1) + 1) + 1) + 1) + 1) + 1) + 1) + 1) + 1) + 1) + 1) + 1) + 1) + 1) + 1) + 1) + 1) + 1) + 1) + 1) + 1) + 1) + 1) (((((((((((((((((((((((((((w + k1) + k5) + k9) + k13) + k17) + k21) + k25) + k29) + k33) + k37) + k41) + k45) + k49) + k53) + k57) + k61) + k65) + k69) + k73) + k77) + k81) + k85) + k89) + k123) + k127) + k131) + k135) (S138, (((((((((((((((((((((((((((z + 1) + 1) + 1) + 1) + 1) + 1) + 1) + 1) + 1) + 1) + 1) + 1) + 1) + 1) + 1) + 1) + 1) + 1) + 1) + 1) + 1) + 1) + 1) + 1) + 1) + 1) + 1))
def fX8_init (N MC MS : Nat) (S : zS) (z : Nat) (q : Nat) (w : Nat) (x0 : Nat) : Option (zS × Nat) := fX8_init_0 N MC MS S z q w x0
def fX8_in_15 (N : Nat) (S : zS) (y0 : Int32) : Option (Int32 × zS) :=
  some (y0 &&& 1, S)
def fX8_in_14 (N : Nat) (S : zS) : Option (Int32 × zS) :=
  fX8_in_15 N S (0 : Int32)
def fX8_in_0 (N : Nat) (S : zS) (x0 : Int32) (x1 : Int32) (x2 : Int32) : Option (Int32 × zS) :=
  if x0 < x1 then
    fX8_in_14 N S
  else
    if x2 < x0 then
      fX8_in_14 N S
    else
      fX8_in_15 N S (1 : Int32)
def fX8_in (N : Nat) (S : zS) (x0 : Int32) (x1 : Int32) (x2 : Int32) : Option (Int32 × zS) := fX8_in_0 N S x0 x1 x2
def fX8_feed_27 (N : Nat) (K27 : zS × Nat × Int32 × Int32 × Int32 → Option (Int32 × zS)) (S : zS) (x0 : Nat) (x1 : Int32) (x2 : Int32) (x3 : Int32) : Option (Int32 × zS) :=
  if x1 ≤ x3 then
    (zgi S x0 8 2).bind fun v1 =>
    some (v1, S)
  else
    (zgr S x0 8 1).bind fun v2 =>
    (zgi S x0 8 2).bind fun v3 =>
    (zis S v2 v3 ((x2 >>> (((8 : Int32) * x3) &&& 31)) &&& (255 : Int32))).bind fun S4 =>
    (zgi S4 x0 8 2).bind fun v5 =>
    (zpi S4 x0 8 2 (v5 + (1 : Int32))).bind fun S6 =>
    K27 (S6, x0, x1, x2, (x3 + (1 : Int32)))
def lX8_feed_27 (N : Nat)  (S : zS) (x0 : Nat) (x1 : Int32) (x2 : Int32) (x3 : Int32) : Option (Int32 × zS) := zloop (fun K y => fX8_feed_27 N K y.1 y.2.1 y.2.2.1 y.2.2.2.1 y.2.2.2.2) N (S, x0, x1, x2, x3)
def fX8_feed_0 (N : Nat) (S : zS) (x0 : Nat) (x1 : Int32) (x2 : Int32) : Option (Int32 × zS) :=
  zb2 (fX8_in N S x1 (1 : Int32) (4 : Int32)) fun v8 S7 =>
  if v8 = (0 : Int32) then
    some ((-1 : Int32), S7)
  else
    (zgi S7 x0 8 2).bind fun v9 =>
    if (v9 + x1) ≤ (60 : Int32) then
      lX8_feed_27 N S7 x0 x1 x2 (0 : Int32)
    else
      some ((-3 : Int32), S7)
def fX8_feed (N : Nat) (S : zS) (x0 : Nat) (x1 : Int32) (x2 : Int32) : Option (Int32 × zS) := fX8_feed_0 N S x0 x1 x2
def fX8_keep_14 (N : Nat) (K14 : zS × Nat × Int32 × Int32 × Int32 → Option (Int32 × zS)) (S : zS) (x0 : Nat) (x1 : Int32) (x2 : Int32) (x3 : Int32) : Option (Int32 × zS) :=
  if x2 ≤ x3 then
    (zpi S x0 8 2 (0 : Int32)).bind fun S1 =>
    some (x2, S1)
  else
    (zgr S x0 8 5).bind fun v2 =>
    (zgr S x0 8 1).bind fun v3 =>
    (zil S v3 x3).bind fun v4 =>
    (zis S v2 (((60 : Int32) * x1) + x3) v4).bind fun S5 =>
    K14 (S5, x0, x1, x2, (x3 + (1 : Int32)))
def lX8_keep_14 (N : Nat)  (S : zS) (x0 : Nat) (x1 : Int32) (x2 : Int32) (x3 : Int32) : Option (Int32 × zS) := zloop (fun K y => fX8_keep_14 N K y.1 y.2.1 y.2.2.1 y.2.2.2.1 y.2.2.2.2) N (S, x0, x1, x2, x3)
def fX8_keep_0 (N : Nat) (S : zS) (x0 : Nat) (x1 : Int32) : Option (Int32 × zS) :=
  (zgi S x0 8 2).bind fun v6 =>
  (zgr S x0 8 4).bind fun v7 =>
  (zis S v7 x1 v6).bind fun S8 =>
  lX8_keep_14 N S8 x0 x1 v6 (0 : Int32)
def fX8_keep (N : Nat) (S : zS) (x0 : Nat) (x1 : Int32) : Option (Int32 × zS) := fX8_keep_0 N S x0 x1
def fX8_text_0 (N : Nat) (S : zS) (x0 : Nat) : Option (Int32 × zS) :=
  (zgi S x0 8 3).bind fun v1 =>
  if v1 = (20 : Int32) then
    some ((-3 : Int32), S)
  else
    (zgi S x0 8 3).bind fun v2 =>
    (zrc S x0 8).bind fun u3 =>
    zb2 (fX8_keep N S x0 v2) fun v5 S4 =>
    (zgi S4 x0 8 3).bind fun v6 =>
    (zpi S4 x0 8 3 (v6 + (1 : Int32))).bind fun S7 =>
    (zgi S7 x0 8 3).bind fun v8 =>
    some ((v8 - (1 : Int32)), S7)
def fX8_text (N : Nat) (S : zS) (x0 : Nat) : Option (Int32 × zS) := fX8_text_0 N S x0
def fX8_isText_0 (N : Nat) (S : zS) (x0 : Nat) (x1 : Int32) : Option (Int32 × zS) :=
  (zgi S x0 8 3).bind fun v1 =>
  zb2 (fX8_in N S x1 (0 : Int32) (v1 - (1 : Int32))) fun v3 S2 =>
  some (v3 &&& 1, S2)
def fX8_isText (N : Nat) (S : zS) (x0 : Nat) (x1 : Int32) : Option (Int32 × zS) := fX8_isText_0 N S x0 x1
def fX8_isStep_0 (N : Nat) (S : zS) (x0 : Nat) (x1 : Int32) : Option (Int32 × zS) :=
  (zgi S x0 8 8).bind fun v1 =>
  zb2 (fX8_in N S x1 (0 : Int32) (v1 - (1 : Int32))) fun v3 S2 =>
  some (v3 &&& 1, S2)
def fX8_isStep (N : Nat) (S : zS) (x0 : Nat) (x1 : Int32) : Option (Int32 × zS) := fX8_isStep_0 N S x0 x1
def fX8_isRoom_0 (N : Nat) (S : zS) (x0 : Int32) : Option (Int32 × zS) :=
  zb2 (fX8_in N S x0 (0 : Int32) (7 : Int32)) fun v2 S1 =>
  some (v2 &&& 1, S1)
def fX8_isRoom (N : Nat) (S : zS) (x0 : Int32) : Option (Int32 × zS) := fX8_isRoom_0 N S x0
def fX8_isWord_0 (N : Nat) (S : zS) (x0 : Int32) : Option (Int32 × zS) :=
  zb2 (fX8_in N S x0 (0 : Int32) (7 : Int32)) fun v2 S1 =>
  some (v2 &&& 1, S1)
def fX8_isWord (N : Nat) (S : zS) (x0 : Int32) : Option (Int32 × zS) := fX8_isWord_0 N S x0
def fX8_write_17 (N : Nat) (S : zS) (y0 : Int32) : Option (Int32 × zS) :=
  some (y0, S)
def fX8_write_0 (N : Nat) (S : zS) (x0 : Nat) (x1 : Int32) : Option (Int32 × zS) :=
  (zrc S x0 8).bind fun u1 =>
  zb2 (fX8_isText N S x0 x1) fun v3 S2 =>
  if v3 = (0 : Int32) then
    fX8_write_17 N S2 (-1 : Int32)
  else
    (zrc S2 x0 8).bind fun u4 =>
    zb2 (fX8_keep N S2 x0 x1) fun v6 S5 =>
    fX8_write_17 N S5 v6
def fX8_write (N : Nat) (S : zS) (x0 : Nat) (x1 : Int32) : Option (Int32 × zS) := fX8_write_0 N S x0 x1
def fX8_lack_49 (N : Nat) (S : zS) (x3 : Int32) (y0 : Nat) (y1 : Int32) (y2 : Int32) : Option (Int32 × zS) :=
  (zzs S y0 y1 y2).bind fun S1 =>
  some (x3, S1)
def fX8_lack_33 (N : Nat) (S : zS) (x0 : Nat) (x1 : Int32) (x2 : Int32) (y0 : Int32) : Option (Int32 × zS) :=
  (zgr S x0 8 6).bind fun v2 =>
  if x2 = (1 : Int32) then
    fX8_lack_49 N S y0 v2 x1 (1 : Int32)
  else
    fX8_lack_49 N S y0 v2 x1 (0 : Int32)
def fX8_lack_17 (N : Nat) (S : zS) : Option (Int32 × zS) :=
  some ((-1 : Int32), S)
def fX8_lack_0 (N : Nat) (S : zS) (x0 : Nat) (x1 : Int32) (x2 : Int32) : Option (Int32 × zS) :=
  (zrc S x0 8).bind fun u3 =>
  zb2 (fX8_isText N S x0 x1) fun v5 S4 =>
  if v5 = (0 : Int32) then
    fX8_lack_17 N S4
  else
    zb2 (fX8_in N S4 x2 (0 : Int32) (1 : Int32)) fun v7 S6 =>
    if v7 = (0 : Int32) then
      fX8_lack_17 N S6
    else
      (zgr S6 x0 8 6).bind fun v8 =>
      (zzl S6 v8 x1).bind fun v9 =>
      if v9 = (0 : Int32) then
        fX8_lack_33 N S6 x0 x1 x2 (0 : Int32)
      else
        fX8_lack_33 N S6 x0 x1 x2 (1 : Int32)
def fX8_lack (N : Nat) (S : zS) (x0 : Nat) (x1 : Int32) (x2 : Int32) : Option (Int32 × zS) := fX8_lack_0 N S x0 x1 x2
def fX8_word_25 (N : Nat) (S : zS) : Option (Int32 × zS) :=
  some ((-1 : Int32), S)
def fX8_word_0 (N : Nat) (S : zS) (x0 : Nat) (x1 : Int32) (x2 : Int32) (x3 : Int32) : Option (Int32 × zS) :=
  zb2 (fX8_isRoom N S x1) fun v2 S1 =>
  if v2 = (0 : Int32) then
    fX8_word_25 N S1
  else
    zb2 (fX8_isWord N S1 x2) fun v4 S3 =>
    if v4 = (0 : Int32) then
      fX8_word_25 N S3
    else
      zb2 (fX8_in N S3 x3 (0 : Int32) (255 : Int32)) fun v6 S5 =>
      if v6 = (0 : Int32) then
        fX8_word_25 N S5
      else
        (zgr S5 x0 8 7).bind fun v7 =>
        (zil S5 v7 (((8 : Int32) * x1) + x2)).bind fun v8 =>
        (zgr S5 x0 8 7).bind fun v9 =>
        (zis S5 v9 (((8 : Int32) * x1) + x2) x3).bind fun S10 =>
        some (v8, S10)
def fX8_word (N : Nat) (S : zS) (x0 : Nat) (x1 : Int32) (x2 : Int32) (x3 : Int32) : Option (Int32 × zS) := fX8_word_0 N S x0 x1 x2 x3
def fX8_copy_61 (N : Nat) (K21 : zS × Nat × Int32 × Int32 × Int32 × Int32 → Option (Int32 × zS)) (S : zS) (x0 : Nat) (x1 : Int32) (x2 : Int32) (x4 : Int32) (y0 : Int32) (y1 : Int32) : Option (Int32 × zS) :=
  (zgr S x0 8 7).bind fun v1 =>
  (zgr S x0 8 7).bind fun v2 =>
  (zil S v2 (((8 : Int32) * x1) + x4)).bind fun v3 =>
  (zis S v1 (((8 : Int32) * x2) + x4) v3).bind fun S4 =>
  K21 (S4, x0, x1, x2, (y0 + y1), (x4 + (1 : Int32)))
def fX8_copy_21 (N : Nat) (K21 : zS × Nat × Int32 × Int32 × Int32 × Int32 → Option (Int32 × zS)) (S : zS) (x0 : Nat) (x1 : Int32) (x2 : Int32) (x3 : Int32) (x4 : Int32) : Option (Int32 × zS) :=
  if (8 : Int32) ≤ x4 then
    some (x3, S)
  else
    (zgr S x0 8 7).bind fun v5 =>
    (zil S v5 (((8 : Int32) * x1) + x4)).bind fun v6 =>
    (zgr S x0 8 7).bind fun v7 =>
    (zil S v7 (((8 : Int32) * x2) + x4)).bind fun v8 =>
    if v6 = v8 then
      fX8_copy_61 N K21 S x0 x1 x2 x4 x3 (0 : Int32)
    else
      fX8_copy_61 N K21 S x0 x1 x2 x4 x3 (1 : Int32)
def lX8_copy_21 (N : Nat)  (S : zS) (x0 : Nat) (x1 : Int32) (x2 : Int32) (x3 : Int32) (x4 : Int32) : Option (Int32 × zS) := zloop (fun K y => fX8_copy_21 N K y.1 y.2.1 y.2.2.1 y.2.2.2.1 y.2.2.2.2.1 y.2.2.2.2.2) N (S, x0, x1, x2, x3, x4)
def fX8_copy_14 (N : Nat) (S : zS) : Option (Int32 × zS) :=
  some ((-1 : Int32), S)
def fX8_copy_0 (N : Nat) (S : zS) (x0 : Nat) (x1 : Int32) (x2 : Int32) : Option (Int32 × zS) :=
  zb2 (fX8_isRoom N S x1) fun v10 S9 =>
  if v10 = (0 : Int32) then
    fX8_copy_14 N S9
  else
    zb2 (fX8_isRoom N S9 x2) fun v12 S11 =>
    if v12 = (0 : Int32) then
      fX8_copy_14 N S11
    else
      lX8_copy_21 N S11 x0 x1 x2 (0 : Int32) (0 : Int32)
def fX8_copy (N : Nat) (S : zS) (x0 : Nat) (x1 : Int32) (x2 : Int32) : Option (Int32 × zS) := fX8_copy_0 N S x0 x1 x2
def fX8_step_31 (N : Nat) (S : zS) : Option (Int32 × zS) :=
  some ((-1 : Int32), S)
def fX8_step_0 (N : Nat) (S : zS) (x0 : Nat) (x1 : Int32) (x2 : Int32) (x3 : Int32) : Option (Int32 × zS) :=
  zb2 (fX8_in N S x1 (0 : Int32) (7 : Int32)) fun v2 S1 =>
  if v2 = (0 : Int32) then
    fX8_step_31 N S1
  else
    zb2 (fX8_in N S1 x2 (0 : Int32) (255 : Int32)) fun v4 S3 =>
    if v4 = (0 : Int32) then
      fX8_step_31 N S3
    else
      zb2 (fX8_in N S3 x3 (0 : Int32) (7 : Int32)) fun v6 S5 =>
      if v6 = (0 : Int32) then
        fX8_step_31 N S5
      else
        (zgi S5 x0 8 8).bind fun v7 =>
        if v7 = (24 : Int32) then
          some ((-3 : Int32), S5)
        else
          (zgr S5 x0 8 9).bind fun v8 =>
          (zgi S5 x0 8 8).bind fun v9 =>
          (zis S5 v8 v9 x1).bind fun S10 =>
          (zgr S10 x0 8 10).bind fun v11 =>
          (zgi S10 x0 8 8).bind fun v12 =>
          (zis S10 v11 v12 x2).bind fun S13 =>
          (zgr S13 x0 8 11).bind fun v14 =>
          (zgi S13 x0 8 8).bind fun v15 =>
          (zis S13 v14 v15 x3).bind fun S16 =>
          (zgr S16 x0 8 12).bind fun v17 =>
          (zgi S16 x0 8 8).bind fun v18 =>
          (zis S16 v17 v18 (0 : Int32)).bind fun S19 =>
          (zgi S19 x0 8 8).bind fun v20 =>
          (zpi S19 x0 8 8 (v20 + (1 : Int32))).bind fun S21 =>
          (zgi S21 x0 8 8).bind fun v22 =>
          some ((v22 - (1 : Int32)), S21)
def fX8_step (N : Nat) (S : zS) (x0 : Nat) (x1 : Int32) (x2 : Int32) (x3 : Int32) : Option (Int32 × zS) := fX8_step_0 N S x0 x1 x2 x3
def fX8_need_46 (N : Nat) (K35 : zS × Nat × Int32 × Int32 × Int32 → Option (Int32 × zS)) (K46 : zS × Nat × Int32 × Int32 × Int32 × Int32 → Option (Int32 × zS)) (S : zS) (x0 : Nat) (x1 : Int32) (x2 : Int32) (x3 : Int32) (x4 : Int32) : Option (Int32 × zS) :=
  (zgr S x0 8 12).bind fun v1 =>
  (zil S v1 x3).bind fun v2 =>
  if v2 ≤ x4 then
    K35 (S, x0, x1, x2, (x3 + (1 : Int32)))
  else
    (zgr S x0 8 13).bind fun v3 =>
    (zil S v3 (((4 : Int32) * x3) + x4)).bind fun v4 =>
    if v4 = ((100 : Int32) + x1) then
      some ((-2 : Int32), S)
    else
      K46 (S, x0, x1, x2, x3, (x4 + (1 : Int32)))
def lX8_need_46 (N : Nat) (K35 : zS × Nat × Int32 × Int32 × Int32 → Option (Int32 × zS)) (S : zS) (x0 : Nat) (x1 : Int32) (x2 : Int32) (x3 : Int32) (x4 : Int32) : Option (Int32 × zS) := zloop (fun K y => fX8_need_46 N K35 K y.1 y.2.1 y.2.2.1 y.2.2.2.1 y.2.2.2.2.1 y.2.2.2.2.2) N (S, x0, x1, x2, x3, x4)
def fX8_need_35 (N : Nat) (K35 : zS × Nat × Int32 × Int32 × Int32 → Option (Int32 × zS)) (S : zS) (x0 : Nat) (x1 : Int32) (x2 : Int32) (x3 : Int32) : Option (Int32 × zS) :=
  (zgi S x0 8 8).bind fun v5 =>
  if v5 ≤ x3 then
    (zgr S x0 8 12).bind fun v6 =>
    (zil S v6 x1).bind fun v7 =>
    if v7 = (4 : Int32) then
      some ((-3 : Int32), S)
    else
      (zgr S x0 8 13).bind fun v8 =>
      (zgr S x0 8 12).bind fun v9 =>
      (zil S v9 x1).bind fun v10 =>
      (zis S v8 (((4 : Int32) * x1) + v10) x2).bind fun S11 =>
      (zgr S11 x0 8 12).bind fun v12 =>
      (zil S11 v12 x1).bind fun v13 =>
      (zis S11 v12 x1 (v13 + (1 : Int32))).bind fun S14 =>
      (zgr S14 x0 8 12).bind fun v15 =>
      (zil S14 v15 x1).bind fun v16 =>
      some (v16, S14)
  else
    lX8_need_46 N K35 S x0 x1 x2 x3 (0 : Int32)
def lX8_need_35 (N : Nat)  (S : zS) (x0 : Nat) (x1 : Int32) (x2 : Int32) (x3 : Int32) : Option (Int32 × zS) := zloop (fun K y => fX8_need_35 N K y.1 y.2.1 y.2.2.1 y.2.2.2.1 y.2.2.2.2) N (S, x0, x1, x2, x3)
def fX8_need_31 (N : Nat) (S : zS) (x0 : Nat) (x1 : Int32) (x2 : Int32) : Option (Int32 × zS) :=
  lX8_need_35 N S x0 x1 x2 (x1 + (1 : Int32))
def fX8_need_29 (N : Nat) (S : zS) : Option (Int32 × zS) :=
  some ((-1 : Int32), S)
def fX8_need_0 (N : Nat) (S : zS) (x0 : Nat) (x1 : Int32) (x2 : Int32) : Option (Int32 × zS) :=
  (zrc S x0 8).bind fun u17 =>
  zb2 (fX8_isStep N S x0 x1) fun v19 S18 =>
  if v19 = (0 : Int32) then
    fX8_need_29 N S18
  else
    (zrc S18 x0 8).bind fun u20 =>
    zb2 (fX8_isText N S18 x0 x2) fun v22 S21 =>
    if v22 = (0 : Int32) then
      zb2 (fX8_in N S21 x2 (100 : Int32) ((99 : Int32) + x1)) fun v24 S23 =>
      if v24 = (0 : Int32) then
        fX8_need_29 N S23
      else
        fX8_need_31 N S23 x0 x1 x2
    else
      fX8_need_31 N S21 x0 x1 x2
def fX8_need (N : Nat) (S : zS) (x0 : Nat) (x1 : Int32) (x2 : Int32) : Option (Int32 × zS) := fX8_need_0 N S x0 x1 x2
def fX8_take_2 (N : Nat) (K2 : zS × Nat × Int32 × Int32 → Option (zS)) (S : zS) (x0 : Nat) (x1 : Int32) (x2 : Int32) : Option (zS) :=
  if (8 : Int32) ≤ x2 then
    some S
  else
    (zgr S x0 8 14).bind fun v1 =>
    (zgr S x0 8 7).bind fun v2 =>
    (zil S v2 (((8 : Int32) * x1) + x2)).bind fun v3 =>
    (zis S v1 x2 v3).bind fun S4 =>
    K2 (S4, x0, x1, (x2 + (1 : Int32)))
def lX8_take_2 (N : Nat)  (S : zS) (x0 : Nat) (x1 : Int32) (x2 : Int32) : Option (zS) := zloop (fun K y => fX8_take_2 N K y.1 y.2.1 y.2.2.1 y.2.2.2) N (S, x0, x1, x2)
def fX8_take_0 (N : Nat) (S : zS) (x0 : Nat) (x1 : Int32) : Option (zS) :=
  lX8_take_2 N S x0 x1 (0 : Int32)
def fX8_take (N : Nat) (S : zS) (x0 : Nat) (x1 : Int32) : Option (zS) := fX8_take_0 N S x0 x1
def fX8_sizeOf_42 (N : Nat) (S : zS) (y0 : Int32) : Option (Int32 × zS) :=
  some (y0, S)
def fX8_sizeOf_0 (N : Nat) (S : zS) (x0 : Nat) (x1 : Int32) (x2 : Int32) : Option (Int32 × zS) :=
  if x2 < (100 : Int32) then
    (zgr S x0 8 6).bind fun v1 =>
    (zzl S v1 x2).bind fun v2 =>
    if v2 = (0 : Int32) then
      (zgr S x0 8 4).bind fun v3 =>
      (zil S v3 x2).bind fun v4 =>
      fX8_sizeOf_42 N S v4
    else
      fX8_sizeOf_42 N S (-1 : Int32)
  else
    (zgr S x0 8 15).bind fun v5 =>
    (zil S v5 ((((24 : Int32) * x1) + x2) - (100 : Int32))).bind fun v6 =>
    fX8_sizeOf_42 N S v6
def fX8_sizeOf (N : Nat) (S : zS) (x0 : Nat) (x1 : Int32) (x2 : Int32) : Option (Int32 × zS) := fX8_sizeOf_0 N S x0 x1 x2
def fX8_byteOf_40 (N : Nat) (S : zS) (y0 : Int32) : Option (Int32 × zS) :=
  some (y0, S)
def fX8_byteOf_0 (N : Nat) (S : zS) (x0 : Nat) (x1 : Int32) (x2 : Int32) (x3 : Int32) : Option (Int32 × zS) :=
  if x2 < (100 : Int32) then
    (zgr S x0 8 5).bind fun v1 =>
    (zil S v1 (((60 : Int32) * x2) + x3)).bind fun v2 =>
    fX8_byteOf_40 N S v2
  else
    (zgr S x0 8 16).bind fun v3 =>
    (zil S v3 (((200 : Int32) * ((((24 : Int32) * x1) + x2) - (100 : Int32))) + x3)).bind fun v4 =>
    fX8_byteOf_40 N S v4
def fX8_byteOf (N : Nat) (S : zS) (x0 : Nat) (x1 : Int32) (x2 : Int32) (x3 : Int32) : Option (Int32 × zS) := fX8_byteOf_0 N S x0 x1 x2 x3
def fX8_add_10 (N : Nat) (K10 : zS × Nat × Int32 × Int32 × Int32 × Int32 → Option (zS)) (S : zS) (x0 : Nat) (x1 : Int32) (x2 : Int32) (x3 : Int32) (x4 : Int32) : Option (zS) :=
  if x3 ≤ x4 then
    some S
  else
    (zgr S x0 8 17).bind fun v1 =>
    (zgi S x0 8 18).bind fun v2 =>
    (zrc S x0 8).bind fun u3 =>
    zb2 (fX8_byteOf N S x0 x1 x2 x4) fun v5 S4 =>
    (zis S4 v1 v2 v5).bind fun S6 =>
    (zgi S6 x0 8 18).bind fun v7 =>
    (zpi S6 x0 8 18 (v7 + (1 : Int32))).bind fun S8 =>
    K10 (S8, x0, x1, x2, x3, (x4 + (1 : Int32)))
def lX8_add_10 (N : Nat)  (S : zS) (x0 : Nat) (x1 : Int32) (x2 : Int32) (x3 : Int32) (x4 : Int32) : Option (zS) := zloop (fun K y => fX8_add_10 N K y.1 y.2.1 y.2.2.1 y.2.2.2.1 y.2.2.2.2.1 y.2.2.2.2.2) N (S, x0, x1, x2, x3, x4)
def fX8_add_0 (N : Nat) (S : zS) (x0 : Nat) (x1 : Int32) (x2 : Int32) : Option (zS) :=
  (zrc S x0 8).bind fun u9 =>
  zb2 (fX8_sizeOf N S x0 x1 x2) fun v11 S10 =>
  lX8_add_10 N S10 x0 x1 x2 v11 (0 : Int32)
def fX8_add (N : Nat) (S : zS) (x0 : Nat) (x1 : Int32) (x2 : Int32) : Option (zS) := fX8_add_0 N S x0 x1 x2
def fX8_isReady_58 (N : Nat) (K18 : zS × Nat × Int32 × Int32 × Int32 × Int32 → Option (Int32 × zS)) (S : zS) (x0 : Nat) (x1 : Int32) (x2 : Int32) (x4 : Int32) (y0 : Int32) : Option (Int32 × zS) :=
  K18 (S, x0, x1, x2, y0, (x4 + (1 : Int32)))
def fX8_isReady_57 (N : Nat) (K18 : zS × Nat × Int32 × Int32 × Int32 × Int32 → Option (Int32 × zS)) (S : zS) (x0 : Nat) (x1 : Int32) (x2 : Int32) (x4 : Int32) : Option (Int32 × zS) :=
  fX8_isReady_58 N K18 S x0 x1 x2 x4 (0 : Int32)
def fX8_isReady_18 (N : Nat) (K18 : zS × Nat × Int32 × Int32 × Int32 × Int32 → Option (Int32 × zS)) (S : zS) (x0 : Nat) (x1 : Int32) (x2 : Int32) (x3 : Int32) (x4 : Int32) : Option (Int32 × zS) :=
  (zgr S x0 8 12).bind fun v1 =>
  (zil S v1 x2).bind fun v2 =>
  if v2 ≤ x4 then
    some (x3 &&& 1, S)
  else
    if x3 = (0 : Int32) then
      fX8_isReady_57 N K18 S x0 x1 x2 x4
    else
      (zgr S x0 8 13).bind fun v3 =>
      (zil S v3 (((4 : Int32) * x2) + x4)).bind fun v4 =>
      (zrc S x0 8).bind fun u5 =>
      zb2 (fX8_sizeOf N S x0 x1 v4) fun v7 S6 =>
      if v7 = (-1 : Int32) then
        fX8_isReady_57 N K18 S6 x0 x1 x2 x4
      else
        fX8_isReady_58 N K18 S6 x0 x1 x2 x4 (1 : Int32)
def lX8_isReady_18 (N : Nat)  (S : zS) (x0 : Nat) (x1 : Int32) (x2 : Int32) (x3 : Int32) (x4 : Int32) : Option (Int32 × zS) := zloop (fun K y => fX8_isReady_18 N K y.1 y.2.1 y.2.2.1 y.2.2.2.1 y.2.2.2.2.1 y.2.2.2.2.2) N (S, x0, x1, x2, x3, x4)
def fX8_isReady_14 (N : Nat) (S : zS) (x0 : Nat) (x1 : Int32) (x2 : Int32) (y0 : Int32) : Option (Int32 × zS) :=
  lX8_isReady_18 N S x0 x1 x2 y0 (0 : Int32)
def fX8_isReady_0 (N : Nat) (S : zS) (x0 : Nat) (x1 : Int32) (x2 : Int32) : Option (Int32 × zS) :=
  (zgr S x0 8 12).bind fun v8 =>
  (zil S v8 x2).bind fun v9 =>
  if v9 ≤ (0 : Int32) then
    fX8_isReady_14 N S x0 x1 x2 (0 : Int32)
  else
    fX8_isReady_14 N S x0 x1 x2 (1 : Int32)
def fX8_isReady (N : Nat) (S : zS) (x0 : Nat) (x1 : Int32) (x2 : Int32) : Option (Int32 × zS) := fX8_isReady_0 N S x0 x1 x2
def fX8_join_132 (N : Nat) (K101 : zS × Nat × Int32 × Int32 × Int32 × Int32 × Int32 → Option (zS)) (S : zS) (x0 : Nat) (x1 : Int32) (x2 : Int32) (x3 : Int32) (x4 : Int32) (x5 : Int32) (y0 : Nat) (y1 : Int32) (y2 : Nat) (y3 : Int32) (y4 : Int32) : Option (zS) :=
  (zil S y2 (y3 + y4)).bind fun v1 =>
  (zrc S y0 8).bind fun u2 =>
  (fX8_add N S y0 y1 v1).bind fun S3 =>
  K101 (S3, x0, x1, x2, x3, x4, (x5 + (1 : Int32)))
def fX8_join_101 (N : Nat) (K101 : zS × Nat × Int32 × Int32 × Int32 × Int32 × Int32 → Option (zS)) (S : zS) (x0 : Nat) (x1 : Int32) (x2 : Int32) (x3 : Int32) (x4 : Int32) (x5 : Int32) : Option (zS) :=
  if x3 ≤ x5 then
    some S
  else
    (zgr S x0 8 13).bind fun v4 =>
    if x4 = (0 : Int32) then
      fX8_join_132 N K101 S x0 x1 x2 x3 x4 x5 x0 x1 v4 ((4 : Int32) * x2) x5
    else
      fX8_join_132 N K101 S x0 x1 x2 x3 x4 x5 x0 x1 v4 ((4 : Int32) * x2) ((x3 - (1 : Int32)) - x5)
def lX8_join_101 (N : Nat)  (S : zS) (x0 : Nat) (x1 : Int32) (x2 : Int32) (x3 : Int32) (x4 : Int32) (x5 : Int32) : Option (zS) := zloop (fun K y => fX8_join_101 N K y.1 y.2.1 y.2.2.1 y.2.2.2.1 y.2.2.2.2.1 y.2.2.2.2.2.1 y.2.2.2.2.2.2) N (S, x0, x1, x2, x3, x4, x5)
def fX8_join_96 (N : Nat) (S : zS) (x0 : Nat) (x1 : Int32) (x2 : Int32) (x3 : Int32) (y0 : Int32) : Option (zS) :=
  lX8_join_101 N S x0 x1 x2 x3 y0 (0 : Int32)
def fX8_join_95 (N : Nat) (S : zS) (x0 : Nat) (x1 : Int32) (x2 : Int32) (x3 : Int32) : Option (zS) :=
  fX8_join_96 N S x0 x1 x2 x3 (0 : Int32)
def fX8_join_58 (N : Nat) (S : zS) (y0 : Nat) (y1 : Int32) (y2 : Nat) (y3 : Int32) (y4 : Int32) : Option (zS) :=
  (zil S y2 (y3 + y4)).bind fun v5 =>
  (zrc S y0 8).bind fun u6 =>
  (fX8_add N S y0 y1 v5).bind fun S7 =>
  some S7
def fX8_join_0 (N : Nat) (S : zS) (x0 : Nat) (x1 : Int32) (x2 : Int32) : Option (zS) :=
  (zpi S x0 8 18 (0 : Int32)).bind fun S8 =>
  (zgr S8 x0 8 12).bind fun v9 =>
  (zil S8 v9 x2).bind fun v10 =>
  (zgr S8 x0 8 9).bind fun v11 =>
  (zil S8 v11 x2).bind fun v12 =>
  if v12 = (5 : Int32) then
    (zgr S8 x0 8 13).bind fun v19 =>
    (zgr S8 x0 8 14).bind fun v20 =>
    (zgr S8 x0 8 11).bind fun v21 =>
    (zil S8 v21 x2).bind fun v22 =>
    (zil S8 v20 v22).bind fun v23 =>
    (zgr S8 x0 8 10).bind fun v24 =>
    (zil S8 v24 x2).bind fun v25 =>
    if v25 ≤ v23 then
      fX8_join_58 N S8 x0 x1 v19 ((4 : Int32) * x2) (v10 - (1 : Int32))
    else
      fX8_join_58 N S8 x0 x1 v19 ((4 : Int32) * x2) (0 : Int32)
  else
    (zgr S8 x0 8 9).bind fun v13 =>
    (zil S8 v13 x2).bind fun v14 =>
    if v14 = (2 : Int32) then
      (zgr S8 x0 8 14).bind fun v15 =>
      (zgr S8 x0 8 11).bind fun v16 =>
      (zil S8 v16 x2).bind fun v17 =>
      (zil S8 v15 v17).bind fun v18 =>
      if (v18 - v18 / (2 : Int32) * (2 : Int32)) = (1 : Int32) then
        fX8_join_96 N S8 x0 x1 x2 v10 (1 : Int32)
      else
        fX8_join_95 N S8 x0 x1 x2 v10
    else
      fX8_join_95 N S8 x0 x1 x2 v10
def fX8_join (N : Nat) (S : zS) (x0 : Nat) (x1 : Int32) (x2 : Int32) : Option (zS) := fX8_join_0 N S x0 x1 x2
def fX8_strip_40 (N : Nat) (K4 : zS × Nat × Int32 × Int32 × Int32 → Option (zS)) (S : zS) (x0 : Nat) (x1 : Int32) (x2 : Int32) (x3 : Int32) : Option (zS) :=
  K4 (S, x0, x1, x2, (x3 + (1 : Int32)))
def fX8_strip_4 (N : Nat) (K4 : zS × Nat × Int32 × Int32 × Int32 → Option (zS)) (S : zS) (x0 : Nat) (x1 : Int32) (x2 : Int32) (x3 : Int32) : Option (zS) :=
  (zgi S x0 8 18).bind fun v1 =>
  if v1 ≤ x3 then
    (zpi S x0 8 18 x2).bind fun S2 =>
    some S2
  else
    (zgr S x0 8 17).bind fun v3 =>
    (zil S v3 x3).bind fun v4 =>
    if v4 = x1 then
      fX8_strip_40 N K4 S x0 x1 x2 x3
    else
      (zgr S x0 8 17).bind fun v5 =>
      (zgr S x0 8 17).bind fun v6 =>
      (zil S v6 x3).bind fun v7 =>
      (zis S v5 x2 v7).bind fun S8 =>
      fX8_strip_40 N K4 S8 x0 x1 (x2 + (1 : Int32)) x3
def lX8_strip_4 (N : Nat)  (S : zS) (x0 : Nat) (x1 : Int32) (x2 : Int32) (x3 : Int32) : Option (zS) := zloop (fun K y => fX8_strip_4 N K y.1 y.2.1 y.2.2.1 y.2.2.2.1 y.2.2.2.2) N (S, x0, x1, x2, x3)
def fX8_strip_0 (N : Nat) (S : zS) (x0 : Nat) (x1 : Int32) : Option (zS) :=
  lX8_strip_4 N S x0 x1 (0 : Int32) (0 : Int32)
def fX8_strip (N : Nat) (S : zS) (x0 : Nat) (x1 : Int32) : Option (zS) := fX8_strip_0 N S x0 x1
def fX8_sort_66 (N : Nat) (K57 : zS × Nat × Int32 × Int32 → Option (zS)) (K66 : zS × Nat × Int32 × Int32 × Int32 → Option (zS)) (S : zS) (x0 : Nat) (x1 : Int32) (x2 : Int32) (x3 : Int32) : Option (zS) :=
  (zgr S x0 8 19).bind fun v1 =>
  (zil S v1 x2).bind fun v2 =>
  if v2 ≤ x3 then
    K57 (S, x0, x1, (x2 + (1 : Int32)))
  else
    (zgr S x0 8 17).bind fun v3 =>
    (zis S v3 x1 x2).bind fun S4 =>
    K66 (S4, x0, (x1 + (1 : Int32)), x2, (x3 + (1 : Int32)))
def lX8_sort_66 (N : Nat) (K57 : zS × Nat × Int32 × Int32 → Option (zS)) (S : zS) (x0 : Nat) (x1 : Int32) (x2 : Int32) (x3 : Int32) : Option (zS) := zloop (fun K y => fX8_sort_66 N K57 K y.1 y.2.1 y.2.2.1 y.2.2.2.1 y.2.2.2.2) N (S, x0, x1, x2, x3)
def fX8_sort_57 (N : Nat) (K57 : zS × Nat × Int32 × Int32 → Option (zS)) (S : zS) (x0 : Nat) (x1 : Int32) (x2 : Int32) : Option (zS) :=
  if (256 : Int32) ≤ x2 then
    some S
  else
    lX8_sort_66 N K57 S x0 x1 x2 (0 : Int32)
def lX8_sort_57 (N : Nat)  (S : zS) (x0 : Nat) (x1 : Int32) (x2 : Int32) : Option (zS) := zloop (fun K y => fX8_sort_57 N K y.1 y.2.1 y.2.2.1 y.2.2.2) N (S, x0, x1, x2)
def fX8_sort_24 (N : Nat) (K24 : zS × Nat × Int32 → Option (zS)) (S : zS) (x0 : Nat) (x1 : Int32) : Option (zS) :=
  (zgi S x0 8 18).bind fun v5 =>
  if v5 ≤ x1 then
    lX8_sort_57 N S x0 (0 : Int32) (0 : Int32)
  else
    (zgr S x0 8 19).bind fun v6 =>
    (zgr S x0 8 17).bind fun v7 =>
    (zil S v7 x1).bind fun v8 =>
    (zil S v6 v8).bind fun v9 =>
    (zis S v6 v8 (v9 + (1 : Int32))).bind fun S10 =>
    K24 (S10, x0, (x1 + (1 : Int32)))
def lX8_sort_24 (N : Nat)  (S : zS) (x0 : Nat) (x1 : Int32) : Option (zS) := zloop (fun K y => fX8_sort_24 N K y.1 y.2.1 y.2.2) N (S, x0, x1)
def fX8_sort_2 (N : Nat) (K2 : zS × Nat × Int32 → Option (zS)) (S : zS) (x0 : Nat) (x1 : Int32) : Option (zS) :=
  if (256 : Int32) ≤ x1 then
    lX8_sort_24 N S x0 (0 : Int32)
  else
    (zgr S x0 8 19).bind fun v11 =>
    (zis S v11 x1 (0 : Int32)).bind fun S12 =>
    K2 (S12, x0, (x1 + (1 : Int32)))
def lX8_sort_2 (N : Nat)  (S : zS) (x0 : Nat) (x1 : Int32) : Option (zS) := zloop (fun K y => fX8_sort_2 N K y.1 y.2.1 y.2.2) N (S, x0, x1)
def fX8_sort_0 (N : Nat) (S : zS) (x0 : Nat) : Option (zS) :=
  lX8_sort_2 N S x0 (0 : Int32)
def fX8_sort (N : Nat) (S : zS) (x0 : Nat) : Option (zS) := fX8_sort_0 N S x0
def fX8_sign_38 (N : Nat) (K38 : zS × Nat × Int32 × Int32 → Option (zS)) (S : zS) (x0 : Nat) (x1 : Int32) (x2 : Int32) : Option (zS) :=
  if (4 : Int32) ≤ x2 then
    some S
  else
    (zgr S x0 8 17).bind fun v1 =>
    (zis S v1 x2 ((x1 >>> (((24 : Int32) - ((8 : Int32) * x2)) &&& 31)) &&& (255 : Int32))).bind fun S2 =>
    K38 (S2, x0, x1, (x2 + (1 : Int32)))
def lX8_sign_38 (N : Nat)  (S : zS) (x0 : Nat) (x1 : Int32) (x2 : Int32) : Option (zS) := zloop (fun K y => fX8_sign_38 N K y.1 y.2.1 y.2.2.1 y.2.2.2) N (S, x0, x1, x2)
def fX8_sign_5 (N : Nat) (K5 : zS × Nat × Int32 × Int32 → Option (zS)) (S : zS) (x0 : Nat) (x1 : Int32) (x2 : Int32) : Option (zS) :=
  (zgi S x0 8 18).bind fun v3 =>
  if v3 ≤ x2 then
    (zpi S x0 8 18 (4 : Int32)).bind fun S4 =>
    lX8_sign_38 N S4 x0 x1 (0 : Int32)
  else
    (zgr S x0 8 17).bind fun v5 =>
    (zil S v5 x2).bind fun v6 =>
    K5 (S, x0, ((x1 ^^^ v6) * (16777619 : Int32)), (x2 + (1 : Int32)))
def lX8_sign_5 (N : Nat)  (S : zS) (x0 : Nat) (x1 : Int32) (x2 : Int32) : Option (zS) := zloop (fun K y => fX8_sign_5 N K y.1 y.2.1 y.2.2.1 y.2.2.2) N (S, x0, x1, x2)
def fX8_sign_0 (N : Nat) (S : zS) (x0 : Nat) : Option (zS) :=
  lX8_sign_5 N S x0 (40503 : Int32) (0 : Int32)
def fX8_sign (N : Nat) (S : zS) (x0 : Nat) : Option (zS) := fX8_sign_0 N S x0
def fX8_make_219 (N : Nat) (K219 : zS × Nat × Int32 × Int32 → Option (zS)) (S : zS) (x0 : Nat) (x3 : Int32) (x4 : Int32) : Option (zS) :=
  (zgi S x0 8 18).bind fun v1 =>
  if v1 ≤ x4 then
    some S
  else
    (zgr S x0 8 16).bind fun v2 =>
    (zgr S x0 8 17).bind fun v3 =>
    (zil S v3 x4).bind fun v4 =>
    (zis S v2 (((200 : Int32) * x3) + x4) v4).bind fun S5 =>
    K219 (S5, x0, x3, (x4 + (1 : Int32)))
def lX8_make_219 (N : Nat)  (S : zS) (x0 : Nat) (x3 : Int32) (x4 : Int32) : Option (zS) := zloop (fun K y => fX8_make_219 N K y.1 y.2.1 y.2.2.1 y.2.2.2) N (S, x0, x3, x4)
def fX8_make_195 (N : Nat) (S : zS) (x0 : Nat) (x3 : Int32) : Option (zS) :=
  (zgi S x0 8 18).bind fun v6 =>
  if v6 ≤ (200 : Int32) then
    (zgr S x0 8 15).bind fun v7 =>
    (zgi S x0 8 18).bind fun v8 =>
    (zis S v7 x3 v8).bind fun S9 =>
    lX8_make_219 N S9 x0 x3 (0 : Int32)
  else
    some S
def fX8_make_150 (N : Nat) (K150 : zS × Nat × Int32 × Int32 × Int32 → Option (zS)) (S : zS) (x0 : Nat) (x2 : Int32) (x3 : Int32) (x4 : Int32) : Option (zS) :=
  (zgi S x0 8 18).bind fun v10 =>
  if v10 ≤ x4 then
    fX8_make_195 N S x0 x3
  else
    (zgr S x0 8 17).bind fun v11 =>
    (zil S v11 x4).bind fun v12 =>
    (zgr S x0 8 10).bind fun v13 =>
    (zil S v13 x2).bind fun v14 =>
    (zis S v11 x4 (v12 ^^^ v14)).bind fun S15 =>
    K150 (S15, x0, x2, x3, (x4 + (1 : Int32)))
def lX8_make_150 (N : Nat)  (S : zS) (x0 : Nat) (x2 : Int32) (x3 : Int32) (x4 : Int32) : Option (zS) := zloop (fun K y => fX8_make_150 N K y.1 y.2.1 y.2.2.1 y.2.2.2.1 y.2.2.2.2) N (S, x0, x2, x3, x4)
def fX8_make_121 (N : Nat) (S : zS) (x0 : Nat) (x3 : Int32) : Option (zS) :=
  (zgi S x0 8 18).bind fun v16 =>
  (zpi S x0 8 18 (v16 + (1 : Int32))).bind fun S17 =>
  fX8_make_195 N S17 x0 x3
def fX8_make_88 (N : Nat) (S : zS) (x0 : Nat) (x3 : Int32) : Option (zS) :=
  fX8_make_195 N S x0 x3
def fX8_make_0 (N : Nat) (S : zS) (x0 : Nat) (x1 : Int32) (x2 : Int32) : Option (zS) :=
  (zgr S x0 8 15).bind fun v18 =>
  (zis S v18 (((24 : Int32) * x1) + x2) (-1 : Int32)).bind fun S19 =>
  (zrc S19 x0 8).bind fun u20 =>
  zb2 (fX8_isReady N S19 x0 x1 x2) fun v22 S21 =>
  if v22 = (0 : Int32) then
    some S21
  else
    (zrc S21 x0 8).bind fun u23 =>
    (fX8_join N S21 x0 x1 x2).bind fun S24 =>
    (zgi S24 x0 8 18).bind fun v25 =>
    if v25 ≤ (200 : Int32) then
      (zgr S24 x0 8 9).bind fun v26 =>
      (zil S24 v26 x2).bind fun v27 =>
      if v27 = (0 : Int32) then
        fX8_make_88 N S24 x0 (((24 : Int32) * x1) + x2)
      else
      if v27 = (1 : Int32) then
        (zgi S24 x0 8 18).bind fun v28 =>
        if (200 : Int32) ≤ v28 then
          fX8_make_121 N S24 x0 (((24 : Int32) * x1) + x2)
        else
          (zgr S24 x0 8 17).bind fun v29 =>
          (zgi S24 x0 8 18).bind fun v30 =>
          (zgr S24 x0 8 14).bind fun v31 =>
          (zgr S24 x0 8 11).bind fun v32 =>
          (zil S24 v32 x2).bind fun v33 =>
          (zil S24 v31 v33).bind fun v34 =>
          (zis S24 v29 v30 v34).bind fun S35 =>
          fX8_make_121 N S35 x0 (((24 : Int32) * x1) + x2)
      else
      if v27 = (2 : Int32) then
        fX8_make_88 N S24 x0 (((24 : Int32) * x1) + x2)
      else
      if v27 = (3 : Int32) then
        (zgr S24 x0 8 10).bind fun v36 =>
        (zil S24 v36 x2).bind fun v37 =>
        (zrc S24 x0 8).bind fun u38 =>
        (fX8_strip N S24 x0 v37).bind fun S39 =>
        fX8_make_195 N S39 x0 (((24 : Int32) * x1) + x2)
      else
      if v27 = (4 : Int32) then
        lX8_make_150 N S24 x0 x2 (((24 : Int32) * x1) + x2) (0 : Int32)
      else
      if v27 = (5 : Int32) then
        fX8_make_88 N S24 x0 (((24 : Int32) * x1) + x2)
      else
      if v27 = (6 : Int32) then
        (zrc S24 x0 8).bind fun u40 =>
        (fX8_sort N S24 x0).bind fun S41 =>
        fX8_make_195 N S41 x0 (((24 : Int32) * x1) + x2)
      else
      (zrc S24 x0 8).bind fun u42 =>
      (fX8_sign N S24 x0).bind fun S43 =>
      fX8_make_195 N S43 x0 (((24 : Int32) * x1) + x2)
    else
      some S24
def fX8_make (N : Nat) (S : zS) (x0 : Nat) (x1 : Int32) (x2 : Int32) : Option (zS) := fX8_make_0 N S x0 x1 x2
def fX8_build_2 (N : Nat) (K2 : zS × Nat × Int32 × Int32 × Int32 → Option (zS)) (S : zS) (x0 : Nat) (x1 : Int32) (x2 : Int32) (x3 : Int32) : Option (zS) :=
  if x2 < x3 then
    some S
  else
    (zrc S x0 8).bind fun u1 =>
    (fX8_make N S x0 x1 x3).bind fun S2 =>
    K2 (S2, x0, x1, x2, (x3 + (1 : Int32)))
def lX8_build_2 (N : Nat)  (S : zS) (x0 : Nat) (x1 : Int32) (x2 : Int32) (x3 : Int32) : Option (zS) := zloop (fun K y => fX8_build_2 N K y.1 y.2.1 y.2.2.1 y.2.2.2.1 y.2.2.2.2) N (S, x0, x1, x2, x3)
def fX8_build_0 (N : Nat) (S : zS) (x0 : Nat) (x1 : Int32) (x2 : Int32) : Option (zS) :=
  lX8_build_2 N S x0 x1 x2 (0 : Int32)
def fX8_build (N : Nat) (S : zS) (x0 : Nat) (x1 : Int32) (x2 : Int32) : Option (zS) := fX8_build_0 N S x0 x1 x2
def fX8_both_0 (N : Nat) (S : zS) (x0 : Nat) (x1 : Int32) (x2 : Int32) (x3 : Int32) : Option (zS) :=
  (zrc S x0 8).bind fun u1 =>
  (fX8_take N S x0 x1).bind fun S2 =>
  (zrc S2 x0 8).bind fun u3 =>
  (fX8_build N S2 x0 (0 : Int32) x3).bind fun S4 =>
  (zrc S4 x0 8).bind fun u5 =>
  (fX8_take N S4 x0 x2).bind fun S6 =>
  (zrc S6 x0 8).bind fun u7 =>
  (fX8_build N S6 x0 (1 : Int32) x3).bind fun S8 =>
  some S8
def fX8_both (N : Nat) (S : zS) (x0 : Nat) (x1 : Int32) (x2 : Int32) (x3 : Int32) : Option (zS) := fX8_both_0 N S x0 x1 x2 x3
def fX8_areAlike_22 (N : Nat) (K22 : zS × Nat × Int32 × Int32 → Option (Int32 × zS)) (S : zS) (x0 : Nat) (x1 : Int32) (x2 : Int32) : Option (Int32 × zS) :=
  (zgr S x0 8 15).bind fun v1 =>
  (zil S v1 x1).bind fun v2 =>
  if v2 ≤ x2 then
    some ((1 : Int32) &&& 1, S)
  else
    (zgr S x0 8 16).bind fun v3 =>
    (zil S v3 (((200 : Int32) * x1) + x2)).bind fun v4 =>
    (zgr S x0 8 16).bind fun v5 =>
    (zil S v5 (((200 : Int32) * ((24 : Int32) + x1)) + x2)).bind fun v6 =>
    if v4 = v6 then
      K22 (S, x0, x1, (x2 + (1 : Int32)))
    else
      some ((0 : Int32) &&& 1, S)
def lX8_areAlike_22 (N : Nat)  (S : zS) (x0 : Nat) (x1 : Int32) (x2 : Int32) : Option (Int32 × zS) := zloop (fun K y => fX8_areAlike_22 N K y.1 y.2.1 y.2.2.1 y.2.2.2) N (S, x0, x1, x2)
def fX8_areAlike_0 (N : Nat) (S : zS) (x0 : Nat) (x1 : Int32) : Option (Int32 × zS) :=
  (zgr S x0 8 15).bind fun v7 =>
  (zil S v7 x1).bind fun v8 =>
  (zgr S x0 8 15).bind fun v9 =>
  (zil S v9 ((24 : Int32) + x1)).bind fun v10 =>
  if v8 = v10 then
    lX8_areAlike_22 N S x0 x1 (0 : Int32)
  else
    some ((0 : Int32) &&& 1, S)
def fX8_areAlike (N : Nat) (S : zS) (x0 : Nat) (x1 : Int32) : Option (Int32 × zS) := fX8_areAlike_0 N S x0 x1
def fX8_made_49 (N : Nat) (S : zS) (y0 : Int32) : Option (Int32 × zS) :=
  some (y0, S)
def fX8_made_15 (N : Nat) (S : zS) : Option (Int32 × zS) :=
  some ((-1 : Int32), S)
def fX8_made_0 (N : Nat) (S : zS) (x0 : Nat) (x1 : Int32) (x2 : Int32) : Option (Int32 × zS) :=
  zb2 (fX8_isRoom N S x1) fun v2 S1 =>
  if v2 = (0 : Int32) then
    fX8_made_15 N S1
  else
    (zrc S1 x0 8).bind fun u3 =>
    zb2 (fX8_isStep N S1 x0 x2) fun v5 S4 =>
    if v5 = (0 : Int32) then
      fX8_made_15 N S4
    else
      (zrc S4 x0 8).bind fun u6 =>
      (fX8_take N S4 x0 x1).bind fun S7 =>
      (zrc S7 x0 8).bind fun u8 =>
      (fX8_build N S7 x0 (0 : Int32) x2).bind fun S9 =>
      (zgr S9 x0 8 15).bind fun v10 =>
      (zil S9 v10 x2).bind fun v11 =>
      if v11 = (-1 : Int32) then
        fX8_made_49 N S9 (-2 : Int32)
      else
        (zgr S9 x0 8 15).bind fun v12 =>
        (zil S9 v12 x2).bind fun v13 =>
        fX8_made_49 N S9 v13
def fX8_made (N : Nat) (S : zS) (x0 : Nat) (x1 : Int32) (x2 : Int32) : Option (Int32 × zS) := fX8_made_0 N S x0 x1 x2
def fX8_at_78 (N : Nat) (S : zS) (y0 : Int32) : Option (Int32 × zS) :=
  some (y0, S)
def fX8_at_26 (N : Nat) (S : zS) : Option (Int32 × zS) :=
  some ((-1 : Int32), S)
def fX8_at_0 (N : Nat) (S : zS) (x0 : Nat) (x1 : Int32) (x2 : Int32) (x3 : Int32) : Option (Int32 × zS) :=
  zb2 (fX8_isRoom N S x1) fun v2 S1 =>
  if v2 = (0 : Int32) then
    fX8_at_26 N S1
  else
    (zrc S1 x0 8).bind fun u3 =>
    zb2 (fX8_isStep N S1 x0 x2) fun v5 S4 =>
    if v5 = (0 : Int32) then
      fX8_at_26 N S4
    else
      zb2 (fX8_in N S4 x3 (0 : Int32) (199 : Int32)) fun v7 S6 =>
      if v7 = (0 : Int32) then
        fX8_at_26 N S6
      else
        (zrc S6 x0 8).bind fun u8 =>
        (fX8_take N S6 x0 x1).bind fun S9 =>
        (zrc S9 x0 8).bind fun u10 =>
        (fX8_build N S9 x0 (0 : Int32) x2).bind fun S11 =>
        (zgr S11 x0 8 15).bind fun v12 =>
        (zil S11 v12 x2).bind fun v13 =>
        if v13 = (-1 : Int32) then
          some ((-2 : Int32), S11)
        else
          (zgr S11 x0 8 15).bind fun v14 =>
          (zil S11 v14 x2).bind fun v15 =>
          if v15 ≤ x3 then
            fX8_at_78 N S11 (-1 : Int32)
          else
            (zgr S11 x0 8 16).bind fun v16 =>
            (zil S11 v16 (((200 : Int32) * x2) + x3)).bind fun v17 =>
            fX8_at_78 N S11 v17
def fX8_at (N : Nat) (S : zS) (x0 : Nat) (x1 : Int32) (x2 : Int32) (x3 : Int32) : Option (Int32 × zS) := fX8_at_0 N S x0 x1 x2 x3
def fX8_usedBy_76 (N : Nat) (K6 : zS × Nat × Int32 × Int32 → Option (Int32 × zS)) (S : zS) (x0 : Nat) (x2 : Int32) (x3 : Int32) : Option (Int32 × zS) :=
  K6 (S, x0, x2, (x3 + (-1 : Int32)))
def fX8_usedBy_70 (N : Nat) (K6 : zS × Nat × Int32 × Int32 → Option (Int32 × zS)) (K24 : zS × Nat × Int32 × Int32 × Int32 → Option (Int32 × zS)) (S : zS) (x0 : Nat) (x2 : Int32) (x3 : Int32) (x4 : Int32) : Option (Int32 × zS) :=
  K24 (S, x0, x2, x3, (x4 + (1 : Int32)))
def fX8_usedBy_24 (N : Nat) (K6 : zS × Nat × Int32 × Int32 → Option (Int32 × zS)) (K24 : zS × Nat × Int32 × Int32 × Int32 → Option (Int32 × zS)) (S : zS) (x0 : Nat) (x2 : Int32) (x3 : Int32) (x4 : Int32) : Option (Int32 × zS) :=
  (zgr S x0 8 12).bind fun v1 =>
  (zil S v1 x3).bind fun v2 =>
  if v2 ≤ x4 then
    fX8_usedBy_76 N K6 S x0 x2 x3
  else
    (zgr S x0 8 13).bind fun v3 =>
    (zil S v3 (((4 : Int32) * x3) + x4)).bind fun v4 =>
    if v4 < (100 : Int32) then
      fX8_usedBy_70 N K6 K24 S x0 x2 x3 x4
    else
      (zgr S x0 8 13).bind fun v5 =>
      (zil S v5 (((4 : Int32) * x3) + x4)).bind fun v6 =>
      zlet (x2 ||| ((1 : Int32) <<< ((v6 - (100 : Int32)) &&& 31))) fun v7 =>
      fX8_usedBy_70 N K6 K24 S x0 v7 x3 x4
def lX8_usedBy_24 (N : Nat) (K6 : zS × Nat × Int32 × Int32 → Option (Int32 × zS)) (S : zS) (x0 : Nat) (x2 : Int32) (x3 : Int32) (x4 : Int32) : Option (Int32 × zS) := zloop (fun K y => fX8_usedBy_24 N K6 K y.1 y.2.1 y.2.2.1 y.2.2.2.1 y.2.2.2.2) N (S, x0, x2, x3, x4)
def fX8_usedBy_6 (N : Nat) (K6 : zS × Nat × Int32 × Int32 → Option (Int32 × zS)) (S : zS) (x0 : Nat) (x2 : Int32) (x3 : Int32) : Option (Int32 × zS) :=
  if x3 < (0 : Int32) then
    some (x2, S)
  else
    if ((x2 >>> (x3 &&& 31)) &&& (1 : Int32)) = (0 : Int32) then
      fX8_usedBy_76 N K6 S x0 x2 x3
    else
      lX8_usedBy_24 N K6 S x0 x2 x3 (0 : Int32)
def lX8_usedBy_6 (N : Nat)  (S : zS) (x0 : Nat) (x2 : Int32) (x3 : Int32) : Option (Int32 × zS) := zloop (fun K y => fX8_usedBy_6 N K y.1 y.2.1 y.2.2.1 y.2.2.2) N (S, x0, x2, x3)
def fX8_usedBy_0 (N : Nat) (S : zS) (x0 : Nat) (x1 : Int32) : Option (Int32 × zS) :=
  lX8_usedBy_6 N S x0 ((1 : Int32) <<< (x1 &&& 31)) x1
def fX8_usedBy (N : Nat) (S : zS) (x0 : Nat) (x1 : Int32) : Option (Int32 × zS) := fX8_usedBy_0 N S x0 x1
def fX8_readBy_52 (N : Nat) (S : zS) (y0 : Int32) : Option (Int32 × zS) :=
  some (y0, S)
def fX8_readBy_51 (N : Nat) (S : zS) : Option (Int32 × zS) :=
  fX8_readBy_52 N S (0 : Int32)
def fX8_readBy_40 (N : Nat) (S : zS) (x0 : Nat) (x1 : Int32) : Option (Int32 × zS) :=
  (zgr S x0 8 11).bind fun v1 =>
  (zil S v1 x1).bind fun v2 =>
  fX8_readBy_52 N S ((1 : Int32) <<< (v2 &&& 31))
def fX8_readBy_0 (N : Nat) (S : zS) (x0 : Nat) (x1 : Int32) : Option (Int32 × zS) :=
  (zgr S x0 8 15).bind fun v3 =>
  (zil S v3 x1).bind fun v4 =>
  if v4 = (-1 : Int32) then
    fX8_readBy_51 N S
  else
    (zgr S x0 8 9).bind fun v5 =>
    (zil S v5 x1).bind fun v6 =>
    if v6 = (1 : Int32) then
      fX8_readBy_40 N S x0 x1
    else
      (zgr S x0 8 9).bind fun v7 =>
      (zil S v7 x1).bind fun v8 =>
      if v8 = (2 : Int32) then
        fX8_readBy_40 N S x0 x1
      else
        (zgr S x0 8 9).bind fun v9 =>
        (zil S v9 x1).bind fun v10 =>
        if v10 = (5 : Int32) then
          fX8_readBy_40 N S x0 x1
        else
          fX8_readBy_51 N S
def fX8_readBy (N : Nat) (S : zS) (x0 : Nat) (x1 : Int32) : Option (Int32 × zS) := fX8_readBy_0 N S x0 x1
def fX8_wordsOf_63 (N : Nat) (K34 : zS × Nat × Int32 × Int32 × Int32 × Int32 → Option (Int32 × zS)) (S : zS) (x0 : Nat) (x2 : Int32) (x4 : Int32) (x6 : Int32) (y0 : Int32) (y1 : Int32) : Option (Int32 × zS) :=
  K34 (S, x0, x2, x4, (y0 ||| y1), (x6 + (1 : Int32)))
def fX8_wordsOf_34 (N : Nat) (K34 : zS × Nat × Int32 × Int32 × Int32 × Int32 → Option (Int32 × zS)) (S : zS) (x0 : Nat) (x2 : Int32) (x4 : Int32) (x5 : Int32) (x6 : Int32) : Option (Int32 × zS) :=
  if x2 < x6 then
    some (x5, S)
  else
    if ((x4 >>> (x6 &&& 31)) &&& (1 : Int32)) = (1 : Int32) then
      (zrc S x0 8).bind fun u1 =>
      zb2 (fX8_readBy N S x0 x6) fun v3 S2 =>
      fX8_wordsOf_63 N K34 S2 x0 x2 x4 x6 x5 v3
    else
      fX8_wordsOf_63 N K34 S x0 x2 x4 x6 x5 (0 : Int32)
def lX8_wordsOf_34 (N : Nat)  (S : zS) (x0 : Nat) (x2 : Int32) (x4 : Int32) (x5 : Int32) (x6 : Int32) : Option (Int32 × zS) := zloop (fun K y => fX8_wordsOf_34 N K y.1 y.2.1 y.2.2.1 y.2.2.2.1 y.2.2.2.2.1 y.2.2.2.2.2) N (S, x0, x2, x4, x5, x6)
def fX8_wordsOf_26 (N : Nat) (S : zS) (x0 : Nat) (x2 : Int32) (y0 : Int32) : Option (Int32 × zS) :=
  lX8_wordsOf_34 N S x0 x2 y0 (0 : Int32) (0 : Int32)
def fX8_wordsOf_0 (N : Nat) (S : zS) (x0 : Nat) (x1 : Int32) (x2 : Int32) (x3 : Int32) : Option (Int32 × zS) :=
  (zrc S x0 8).bind fun u4 =>
  (fX8_take N S x0 x1).bind fun S5 =>
  (zrc S5 x0 8).bind fun u6 =>
  (fX8_build N S5 x0 (0 : Int32) x2).bind fun S7 =>
  if x3 = (0 : Int32) then
    fX8_wordsOf_26 N S7 x0 x2 ((1 : Int32) <<< (x2 &&& 31))
  else
    (zrc S7 x0 8).bind fun u8 =>
    zb2 (fX8_usedBy N S7 x0 x2) fun v10 S9 =>
    fX8_wordsOf_26 N S9 x0 x2 v10
def fX8_wordsOf (N : Nat) (S : zS) (x0 : Nat) (x1 : Int32) (x2 : Int32) (x3 : Int32) : Option (Int32 × zS) := fX8_wordsOf_0 N S x0 x1 x2 x3
def fX8_reads_44 (N : Nat) (S : zS) (y0 : Int32) : Option (Int32 × zS) :=
  some (y0, S)
def fX8_reads_43 (N : Nat) (S : zS) : Option (Int32 × zS) :=
  fX8_reads_44 N S (-1 : Int32)
def fX8_reads_37 (N : Nat) (S : zS) (y0 : Nat) (y1 : Int32) (y2 : Int32) (y3 : Int32) : Option (Int32 × zS) :=
  (zrc S y0 8).bind fun u1 =>
  zb2 (fX8_wordsOf N S y0 y1 y2 y3) fun v3 S2 =>
  fX8_reads_44 N S2 v3
def fX8_reads_0 (N : Nat) (S : zS) (x0 : Nat) (x1 : Int32) (x2 : Int32) (x3 : Int32) : Option (Int32 × zS) :=
  zb2 (fX8_isRoom N S x1) fun v5 S4 =>
  if v5 = (0 : Int32) then
    fX8_reads_43 N S4
  else
    (zrc S4 x0 8).bind fun u6 =>
    zb2 (fX8_isStep N S4 x0 x2) fun v8 S7 =>
    if v8 = (0 : Int32) then
      fX8_reads_43 N S7
    else
      zb2 (fX8_in N S7 x3 (0 : Int32) (1 : Int32)) fun v10 S9 =>
      if v10 = (0 : Int32) then
        fX8_reads_43 N S9
      else
        if x3 = (1 : Int32) then
          fX8_reads_37 N S9 x0 x1 x2 (1 : Int32)
        else
          fX8_reads_37 N S9 x0 x1 x2 (0 : Int32)
def fX8_reads (N : Nat) (S : zS) (x0 : Nat) (x1 : Int32) (x2 : Int32) (x3 : Int32) : Option (Int32 × zS) := fX8_reads_0 N S x0 x1 x2 x3
def fX8_uses_105 (N : Nat) (K37 : zS × Nat × Int32 × Int32 × Int32 × Int32 → Option (Int32 × zS)) (K46 : zS × Nat × Int32 × Int32 × Int32 × Int32 × Int32 → Option (Int32 × zS)) (S : zS) (x0 : Nat) (x1 : Int32) (x3 : Int32) (x5 : Int32) (x6 : Int32) (y0 : Int32) (y1 : Int32) : Option (Int32 × zS) :=
  K46 (S, x0, x1, x3, (y0 ||| y1), x5, (x6 + (1 : Int32)))
def fX8_uses_104 (N : Nat) (K37 : zS × Nat × Int32 × Int32 × Int32 × Int32 → Option (Int32 × zS)) (K46 : zS × Nat × Int32 × Int32 × Int32 × Int32 × Int32 → Option (Int32 × zS)) (S : zS) (x0 : Nat) (x1 : Int32) (x3 : Int32) (x5 : Int32) (x6 : Int32) (y0 : Int32) : Option (Int32 × zS) :=
  fX8_uses_105 N K37 K46 S x0 x1 x3 x5 x6 y0 (0 : Int32)
def fX8_uses_46 (N : Nat) (K37 : zS × Nat × Int32 × Int32 × Int32 × Int32 → Option (Int32 × zS)) (K46 : zS × Nat × Int32 × Int32 × Int32 × Int32 × Int32 → Option (Int32 × zS)) (S : zS) (x0 : Nat) (x1 : Int32) (x3 : Int32) (x4 : Int32) (x5 : Int32) (x6 : Int32) : Option (Int32 × zS) :=
  (zgr S x0 8 12).bind fun v1 =>
  (zil S v1 x5).bind fun v2 =>
  if v2 ≤ x6 then
    K37 (S, x0, x1, x3, x4, (x5 + (1 : Int32)))
  else
    if ((x3 >>> (x5 &&& 31)) &&& (1 : Int32)) = (1 : Int32) then
      (zgr S x0 8 13).bind fun v3 =>
      (zil S v3 (((4 : Int32) * x5) + x6)).bind fun v4 =>
      if (100 : Int32) ≤ v4 then
        fX8_uses_104 N K37 K46 S x0 x1 x3 x5 x6 x4
      else
        (zgr S x0 8 13).bind fun v5 =>
        (zil S v5 (((4 : Int32) * x5) + x6)).bind fun v6 =>
        fX8_uses_105 N K37 K46 S x0 x1 x3 x5 x6 x4 ((1 : Int32) <<< (v6 &&& 31))
    else
      fX8_uses_104 N K37 K46 S x0 x1 x3 x5 x6 x4
def lX8_uses_46 (N : Nat) (K37 : zS × Nat × Int32 × Int32 × Int32 × Int32 → Option (Int32 × zS)) (S : zS) (x0 : Nat) (x1 : Int32) (x3 : Int32) (x4 : Int32) (x5 : Int32) (x6 : Int32) : Option (Int32 × zS) := zloop (fun K y => fX8_uses_46 N K37 K y.1 y.2.1 y.2.2.1 y.2.2.2.1 y.2.2.2.2.1 y.2.2.2.2.2.1 y.2.2.2.2.2.2) N (S, x0, x1, x3, x4, x5, x6)
def fX8_uses_37 (N : Nat) (K37 : zS × Nat × Int32 × Int32 × Int32 × Int32 → Option (Int32 × zS)) (S : zS) (x0 : Nat) (x1 : Int32) (x3 : Int32) (x4 : Int32) (x5 : Int32) : Option (Int32 × zS) :=
  if x1 < x5 then
    some (x4, S)
  else
    lX8_uses_46 N K37 S x0 x1 x3 x4 x5 (0 : Int32)
def lX8_uses_37 (N : Nat)  (S : zS) (x0 : Nat) (x1 : Int32) (x3 : Int32) (x4 : Int32) (x5 : Int32) : Option (Int32 × zS) := zloop (fun K y => fX8_uses_37 N K y.1 y.2.1 y.2.2.1 y.2.2.2.1 y.2.2.2.2.1 y.2.2.2.2.2) N (S, x0, x1, x3, x4, x5)
def fX8_uses_17 (N : Nat) (S : zS) : Option (Int32 × zS) :=
  some ((-1 : Int32), S)
def fX8_uses_0 (N : Nat) (S : zS) (x0 : Nat) (x1 : Int32) (x2 : Int32) : Option (Int32 × zS) :=
  (zrc S x0 8).bind fun u7 =>
  zb2 (fX8_isStep N S x0 x1) fun v9 S8 =>
  if v9 = (0 : Int32) then
    fX8_uses_17 N S8
  else
    zb2 (fX8_in N S8 x2 (0 : Int32) (1 : Int32)) fun v11 S10 =>
    if v11 = (0 : Int32) then
      fX8_uses_17 N S10
    else
      (zrc S10 x0 8).bind fun u12 =>
      zb2 (fX8_usedBy N S10 x0 x1) fun v14 S13 =>
      if x2 = (0 : Int32) then
        some (v14, S13)
      else
        lX8_uses_37 N S13 x0 x1 v14 (0 : Int32) (0 : Int32)
def fX8_uses (N : Nat) (S : zS) (x0 : Nat) (x1 : Int32) (x2 : Int32) : Option (Int32 × zS) := fX8_uses_0 N S x0 x1 x2
def fX8_bits_4 (N : Nat) (K4 : zS × Int32 × Int32 → Option (Int32 × zS)) (S : zS) (x1 : Int32) (x2 : Int32) : Option (Int32 × zS) :=
  if x2 = (0 : Int32) then
    some (x1, S)
  else
    K4 (S, (x1 + (1 : Int32)), (x2 &&& (x2 - (1 : Int32))))
def lX8_bits_4 (N : Nat)  (S : zS) (x1 : Int32) (x2 : Int32) : Option (Int32 × zS) := zloop (fun K y => fX8_bits_4 N K y.1 y.2.1 y.2.2) N (S, x1, x2)
def fX8_bits_0 (N : Nat) (S : zS) (x0 : Int32) : Option (Int32 × zS) :=
  lX8_bits_4 N S (0 : Int32) x0
def fX8_bits (N : Nat) (S : zS) (x0 : Int32) : Option (Int32 × zS) := fX8_bits_0 N S x0
def fX8_orders_234 (N : Nat) (K159 : zS × Nat × Int32 × Int32 → Option (Int64 × zS)) (K178 : zS × Nat × Int32 × Int32 × Int32 → Option (Int64 × zS)) (S : zS) (x0 : Nat) (x3 : Int32) (x4 : Int32) (x5 : Int32) : Option (Int64 × zS) :=
  K178 (S, x0, x3, x4, (x5 + (1 : Int32)))
def fX8_orders_178 (N : Nat) (K159 : zS × Nat × Int32 × Int32 → Option (Int64 × zS)) (K178 : zS × Nat × Int32 × Int32 × Int32 → Option (Int64 × zS)) (S : zS) (x0 : Nat) (x3 : Int32) (x4 : Int32) (x5 : Int32) : Option (Int64 × zS) :=
  if x3 ≤ x5 then
    K159 (S, x0, x3, (x4 + (1 : Int32)))
  else
    zlet (x4 &&& (((1 : Int32) <<< (x5 &&& 31)) ^^^ (-1 : Int32))) fun v1 =>
    if v1 = x4 then
      fX8_orders_234 N K159 K178 S x0 x3 x4 x5
    else
      (zgr S x0 8 21).bind fun v2 =>
      (zil S v2 x5).bind fun v3 =>
      if (v3 &&& (v1 ^^^ (-1 : Int32))) = (0 : Int32) then
        (zgr S x0 8 22).bind fun v4 =>
        (zll S v4 x4).bind fun v5 =>
        (zgr S x0 8 22).bind fun v6 =>
        (zll S v6 v1).bind fun v7 =>
        (zls S v4 x4 (v5 + v7)).bind fun S8 =>
        fX8_orders_234 N K159 K178 S8 x0 x3 x4 x5
      else
        fX8_orders_234 N K159 K178 S x0 x3 x4 x5
def lX8_orders_178 (N : Nat) (K159 : zS × Nat × Int32 × Int32 → Option (Int64 × zS)) (S : zS) (x0 : Nat) (x3 : Int32) (x4 : Int32) (x5 : Int32) : Option (Int64 × zS) := zloop (fun K y => fX8_orders_178 N K159 K y.1 y.2.1 y.2.2.1 y.2.2.2.1 y.2.2.2.2) N (S, x0, x3, x4, x5)
def fX8_orders_159 (N : Nat) (K159 : zS × Nat × Int32 × Int32 → Option (Int64 × zS)) (S : zS) (x0 : Nat) (x3 : Int32) (x4 : Int32) : Option (Int64 × zS) :=
  if ((1 : Int32) <<< (x3 &&& 31)) ≤ x4 then
    (zgr S x0 8 22).bind fun v9 =>
    (zll S v9 (((1 : Int32) <<< (x3 &&& 31)) - (1 : Int32))).bind fun v10 =>
    some (v10, S)
  else
    (zgr S x0 8 22).bind fun v11 =>
    (zls S v11 x4 (0 : Int64)).bind fun S12 =>
    lX8_orders_178 N K159 S12 x0 x3 x4 (0 : Int32)
def lX8_orders_159 (N : Nat)  (S : zS) (x0 : Nat) (x3 : Int32) (x4 : Int32) : Option (Int64 × zS) := zloop (fun K y => fX8_orders_159 N K y.1 y.2.1 y.2.2.1 y.2.2.2) N (S, x0, x3, x4)
def fX8_orders_143 (N : Nat) (K38 : zS × Nat × Int32 × Int32 × Int32 × Int32 → Option (Int64 × zS)) (S : zS) (x0 : Nat) (x1 : Int32) (x2 : Int32) (x3 : Int32) (x4 : Int32) : Option (Int64 × zS) :=
  K38 (S, x0, x1, x2, x3, (x4 + (1 : Int32)))
def fX8_orders_126 (N : Nat) (K38 : zS × Nat × Int32 × Int32 × Int32 × Int32 → Option (Int64 × zS)) (K66 : zS × Nat × Int32 × Int32 × Int32 × Int32 × Int32 → Option (Int64 × zS)) (S : zS) (x0 : Nat) (x1 : Int32) (x2 : Int32) (x3 : Int32) (x4 : Int32) (x5 : Int32) : Option (Int64 × zS) :=
  K66 (S, x0, x1, x2, x3, x4, (x5 + (1 : Int32)))
def fX8_orders_66 (N : Nat) (K38 : zS × Nat × Int32 × Int32 × Int32 × Int32 → Option (Int64 × zS)) (K66 : zS × Nat × Int32 × Int32 × Int32 × Int32 × Int32 → Option (Int64 × zS)) (S : zS) (x0 : Nat) (x1 : Int32) (x2 : Int32) (x3 : Int32) (x4 : Int32) (x5 : Int32) : Option (Int64 × zS) :=
  (zgr S x0 8 12).bind fun v13 =>
  (zil S v13 x4).bind fun v14 =>
  if v14 ≤ x5 then
    (zgr S x0 8 20).bind fun v15 =>
    (zis S v15 x4 x3).bind fun S16 =>
    fX8_orders_143 N K38 S16 x0 x1 x2 (x3 + (1 : Int32)) x4
  else
    (zgr S x0 8 13).bind fun v17 =>
    (zil S v17 (((4 : Int32) * x4) + x5)).bind fun v18 =>
    if v18 < (100 : Int32) then
      fX8_orders_126 N K38 K66 S x0 x1 x2 x3 x4 x5
    else
      (zgr S x0 8 21).bind fun v19 =>
      (zil S v19 x3).bind fun v20 =>
      (zgr S x0 8 20).bind fun v21 =>
      (zgr S x0 8 13).bind fun v22 =>
      (zil S v22 (((4 : Int32) * x4) + x5)).bind fun v23 =>
      (zil S v21 (v23 - (100 : Int32))).bind fun v24 =>
      (zis S v19 x3 (v20 ||| ((1 : Int32) <<< (v24 &&& 31)))).bind fun S25 =>
      fX8_orders_126 N K38 K66 S25 x0 x1 x2 x3 x4 x5
def lX8_orders_66 (N : Nat) (K38 : zS × Nat × Int32 × Int32 × Int32 × Int32 → Option (Int64 × zS)) (S : zS) (x0 : Nat) (x1 : Int32) (x2 : Int32) (x3 : Int32) (x4 : Int32) (x5 : Int32) : Option (Int64 × zS) := zloop (fun K y => fX8_orders_66 N K38 K y.1 y.2.1 y.2.2.1 y.2.2.2.1 y.2.2.2.2.1 y.2.2.2.2.2.1 y.2.2.2.2.2.2) N (S, x0, x1, x2, x3, x4, x5)
def fX8_orders_38 (N : Nat) (K38 : zS × Nat × Int32 × Int32 × Int32 × Int32 → Option (Int64 × zS)) (S : zS) (x0 : Nat) (x1 : Int32) (x2 : Int32) (x3 : Int32) (x4 : Int32) : Option (Int64 × zS) :=
  if x1 < x4 then
    (zgr S x0 8 22).bind fun v26 =>
    (zls S v26 (0 : Int32) (1 : Int64)).bind fun S27 =>
    lX8_orders_159 N S27 x0 x3 (1 : Int32)
  else
    if ((x2 >>> (x4 &&& 31)) &&& (1 : Int32)) = (0 : Int32) then
      fX8_orders_143 N K38 S x0 x1 x2 x3 x4
    else
      (zgr S x0 8 21).bind fun v28 =>
      (zis S v28 x3 (0 : Int32)).bind fun S29 =>
      lX8_orders_66 N K38 S29 x0 x1 x2 x3 x4 (0 : Int32)
def lX8_orders_38 (N : Nat)  (S : zS) (x0 : Nat) (x1 : Int32) (x2 : Int32) (x3 : Int32) (x4 : Int32) : Option (Int64 × zS) := zloop (fun K y => fX8_orders_38 N K y.1 y.2.1 y.2.2.1 y.2.2.2.1 y.2.2.2.2.1 y.2.2.2.2.2) N (S, x0, x1, x2, x3, x4)
def fX8_orders_0 (N : Nat) (S : zS) (x0 : Nat) (x1 : Int32) : Option (Int64 × zS) :=
  (zrc S x0 8).bind fun u30 =>
  zb2 (fX8_isStep N S x0 x1) fun v32 S31 =>
  if v32 = (0 : Int32) then
    some ((-1 : Int64), S31)
  else
    (zrc S31 x0 8).bind fun u33 =>
    zb2 (fX8_usedBy N S31 x0 x1) fun v35 S34 =>
    zb2 (fX8_bits N S34 v35) fun v37 S36 =>
    if v37 ≤ (16 : Int32) then
      lX8_orders_38 N S36 x0 x1 v35 (0 : Int32) (0 : Int32)
    else
      some ((-4 : Int64), S36)
def fX8_orders (N : Nat) (S : zS) (x0 : Nat) (x1 : Int32) : Option (Int64 × zS) := fX8_orders_0 N S x0 x1
def fX8_built_53 (N : Nat) (K29 : zS × Nat × Int32 × Int32 → Option (Int32 × zS)) (S : zS) (x0 : Nat) (x3 : Int32) (y0 : Int32) (y1 : Int32) : Option (Int32 × zS) :=
  K29 (S, x0, (y0 + y1), (x3 + (1 : Int32)))
def fX8_built_29 (N : Nat) (K29 : zS × Nat × Int32 × Int32 → Option (Int32 × zS)) (S : zS) (x0 : Nat) (x2 : Int32) (x3 : Int32) : Option (Int32 × zS) :=
  (zgi S x0 8 8).bind fun v1 =>
  if v1 ≤ x3 then
    some (x2, S)
  else
    (zgr S x0 8 15).bind fun v2 =>
    (zil S v2 x3).bind fun v3 =>
    if v3 = (-1 : Int32) then
      fX8_built_53 N K29 S x0 x3 x2 (0 : Int32)
    else
      fX8_built_53 N K29 S x0 x3 x2 (1 : Int32)
def lX8_built_29 (N : Nat)  (S : zS) (x0 : Nat) (x2 : Int32) (x3 : Int32) : Option (Int32 × zS) := zloop (fun K y => fX8_built_29 N K y.1 y.2.1 y.2.2.1 y.2.2.2) N (S, x0, x2, x3)
def fX8_built_0 (N : Nat) (S : zS) (x0 : Nat) (x1 : Int32) : Option (Int32 × zS) :=
  zb2 (fX8_isRoom N S x1) fun v5 S4 =>
  if v5 = (0 : Int32) then
    some ((-1 : Int32), S4)
  else
    (zrc S4 x0 8).bind fun u6 =>
    (fX8_take N S4 x0 x1).bind fun S7 =>
    (zgi S7 x0 8 8).bind fun v8 =>
    (zrc S7 x0 8).bind fun u9 =>
    (fX8_build N S7 x0 (0 : Int32) (v8 - (1 : Int32))).bind fun S10 =>
    lX8_built_29 N S10 x0 (0 : Int32) (0 : Int32)
def fX8_built (N : Nat) (S : zS) (x0 : Nat) (x1 : Int32) : Option (Int32 × zS) := fX8_built_0 N S x0 x1
def fX8_alike_44 (N : Nat) (S : zS) (y0 : Int32) : Option (Int32 × zS) :=
  some (y0, S)
def fX8_alike_22 (N : Nat) (S : zS) : Option (Int32 × zS) :=
  some ((-1 : Int32), S)
def fX8_alike_0 (N : Nat) (S : zS) (x0 : Nat) (x1 : Int32) (x2 : Int32) (x3 : Int32) : Option (Int32 × zS) :=
  zb2 (fX8_isRoom N S x1) fun v2 S1 =>
  if v2 = (0 : Int32) then
    fX8_alike_22 N S1
  else
    zb2 (fX8_isRoom N S1 x2) fun v4 S3 =>
    if v4 = (0 : Int32) then
      fX8_alike_22 N S3
    else
      (zrc S3 x0 8).bind fun u5 =>
      zb2 (fX8_isStep N S3 x0 x3) fun v7 S6 =>
      if v7 = (0 : Int32) then
        fX8_alike_22 N S6
      else
        (zrc S6 x0 8).bind fun u8 =>
        (fX8_both N S6 x0 x1 x2 x3).bind fun S9 =>
        (zrc S9 x0 8).bind fun u10 =>
        zb2 (fX8_areAlike N S9 x0 x3) fun v12 S11 =>
        if v12 = (0 : Int32) then
          fX8_alike_44 N S11 (0 : Int32)
        else
          fX8_alike_44 N S11 (1 : Int32)
def fX8_alike (N : Nat) (S : zS) (x0 : Nat) (x1 : Int32) (x2 : Int32) (x3 : Int32) : Option (Int32 × zS) := fX8_alike_0 N S x0 x1 x2 x3
def fX8_first_0 (N : Nat) (S : zS) (x0 : Nat) (x1 : Int32) (x2 : Int32) : Option (Int32 × zS) :=
  (zgr S x0 8 16).bind fun v1 =>
  (zil S v1 (((200 : Int32) * x1) + x2)).bind fun v2 =>
  some (v2, S)
def fX8_first (N : Nat) (S : zS) (x0 : Nat) (x1 : Int32) (x2 : Int32) : Option (Int32 × zS) := fX8_first_0 N S x0 x1 x2
def fX8_second_0 (N : Nat) (S : zS) (x0 : Nat) (x1 : Int32) (x2 : Int32) : Option (Int32 × zS) :=
  (zgr S x0 8 16).bind fun v1 =>
  (zil S v1 (((200 : Int32) * ((24 : Int32) + x1)) + x2)).bind fun v2 =>
  some (v2, S)
def fX8_second (N : Nat) (S : zS) (x0 : Nat) (x1 : Int32) (x2 : Int32) : Option (Int32 × zS) := fX8_second_0 N S x0 x1 x2
def fX8_findFar_157 (N : Nat) (K3 : zS × Nat × Int32 × Int32 × Int32 × Int32 → Option (zS)) (K11 : zS × Nat × Int32 × Int32 × Int32 × Int32 × Int32 → Option (zS)) (S : zS) (x0 : Nat) (x1 : Int32) (x2 : Int32) (x3 : Int32) (x4 : Int32) (x5 : Int32) (x6 : Int32) : Option (zS) :=
  (zgr S x0 8 23).bind fun v1 =>
  (zis S v1 (((201 : Int32) * x4) + x5) x6).bind fun S2 =>
  K11 (S2, x0, x1, x2, x3, x4, (x5 + (-1 : Int32)))
def fX8_findFar_155 (N : Nat) (K3 : zS × Nat × Int32 × Int32 × Int32 × Int32 → Option (zS)) (K11 : zS × Nat × Int32 × Int32 × Int32 × Int32 × Int32 → Option (zS)) (S : zS) (x0 : Nat) (x1 : Int32) (x2 : Int32) (x3 : Int32) (x4 : Int32) (x5 : Int32) (y0 : Int32) : Option (zS) :=
  fX8_findFar_157 N K3 K11 S x0 x1 x2 x3 x4 x5 y0
def fX8_findFar_139 (N : Nat) (K3 : zS × Nat × Int32 × Int32 × Int32 × Int32 → Option (zS)) (K11 : zS × Nat × Int32 × Int32 × Int32 × Int32 × Int32 → Option (zS)) (S : zS) (x0 : Nat) (x1 : Int32) (x2 : Int32) (x3 : Int32) (x4 : Int32) (x5 : Int32) (x8 : Int32) (y0 : Int32) : Option (zS) :=
  if y0 ≤ x8 then
    fX8_findFar_155 N K3 K11 S x0 x1 x2 x3 x4 x5 y0
  else
    fX8_findFar_155 N K3 K11 S x0 x1 x2 x3 x4 x5 x8
def fX8_findFar_82 (N : Nat) (K3 : zS × Nat × Int32 × Int32 × Int32 × Int32 → Option (zS)) (K11 : zS × Nat × Int32 × Int32 × Int32 × Int32 × Int32 → Option (zS)) (S : zS) (x0 : Nat) (x1 : Int32) (x2 : Int32) (x3 : Int32) (x4 : Int32) (x5 : Int32) (y0 : Int32) (y1 : Int32) : Option (zS) :=
  (zgr S x0 8 23).bind fun v3 =>
  (zil S v3 (((201 : Int32) * (x4 + (1 : Int32))) + x5)).bind fun v4 =>
  (zgr S x0 8 23).bind fun v5 =>
  (zil S v5 ((((201 : Int32) * x4) + x5) + (1 : Int32))).bind fun v6 =>
  if (y0 + y1) ≤ (v4 + (1 : Int32)) then
    fX8_findFar_139 N K3 K11 S x0 x1 x2 x3 x4 x5 (v6 + (1 : Int32)) (y0 + y1)
  else
    fX8_findFar_139 N K3 K11 S x0 x1 x2 x3 x4 x5 (v6 + (1 : Int32)) (v4 + (1 : Int32))
def fX8_findFar_28 (N : Nat) (K3 : zS × Nat × Int32 × Int32 × Int32 × Int32 → Option (zS)) (K11 : zS × Nat × Int32 × Int32 × Int32 × Int32 × Int32 → Option (zS)) (S : zS) (x0 : Nat) (x1 : Int32) (x2 : Int32) (x3 : Int32) (x4 : Int32) (x5 : Int32) : Option (zS) :=
  zlet (((x2 - x4) + x3) - x5) fun v7 =>
  fX8_findFar_157 N K3 K11 S x0 x1 x2 x3 x4 x5 v7
def fX8_findFar_11 (N : Nat) (K3 : zS × Nat × Int32 × Int32 × Int32 × Int32 → Option (zS)) (K11 : zS × Nat × Int32 × Int32 × Int32 × Int32 × Int32 → Option (zS)) (S : zS) (x0 : Nat) (x1 : Int32) (x2 : Int32) (x3 : Int32) (x4 : Int32) (x5 : Int32) : Option (zS) :=
  if x5 < (0 : Int32) then
    K3 (S, x0, x1, x2, x3, (x4 + (-1 : Int32)))
  else
    if x4 = x2 then
      fX8_findFar_28 N K3 K11 S x0 x1 x2 x3 x4 x5
    else
      if x5 = x3 then
        fX8_findFar_28 N K3 K11 S x0 x1 x2 x3 x4 x5
      else
        (zgr S x0 8 23).bind fun v8 =>
        (zil S v8 ((((201 : Int32) * (x4 + (1 : Int32))) + x5) + (1 : Int32))).bind fun v9 =>
        (zrc S x0 8).bind fun u10 =>
        zb2 (fX8_first N S x0 x1 x4) fun v12 S11 =>
        (zrc S11 x0 8).bind fun u13 =>
        zb2 (fX8_second N S11 x0 x1 x5) fun v15 S14 =>
        if v12 = v15 then
          fX8_findFar_82 N K3 K11 S14 x0 x1 x2 x3 x4 x5 v9 (0 : Int32)
        else
          fX8_findFar_82 N K3 K11 S14 x0 x1 x2 x3 x4 x5 v9 (1 : Int32)
def lX8_findFar_11 (N : Nat) (K3 : zS × Nat × Int32 × Int32 × Int32 × Int32 → Option (zS)) (S : zS) (x0 : Nat) (x1 : Int32) (x2 : Int32) (x3 : Int32) (x4 : Int32) (x5 : Int32) : Option (zS) := zloop (fun K y => fX8_findFar_11 N K3 K y.1 y.2.1 y.2.2.1 y.2.2.2.1 y.2.2.2.2.1 y.2.2.2.2.2.1 y.2.2.2.2.2.2) N (S, x0, x1, x2, x3, x4, x5)
def fX8_findFar_3 (N : Nat) (K3 : zS × Nat × Int32 × Int32 × Int32 × Int32 → Option (zS)) (S : zS) (x0 : Nat) (x1 : Int32) (x2 : Int32) (x3 : Int32) (x4 : Int32) : Option (zS) :=
  if x4 < (0 : Int32) then
    some S
  else
    lX8_findFar_11 N K3 S x0 x1 x2 x3 x4 x3
def lX8_findFar_3 (N : Nat)  (S : zS) (x0 : Nat) (x1 : Int32) (x2 : Int32) (x3 : Int32) (x4 : Int32) : Option (zS) := zloop (fun K y => fX8_findFar_3 N K y.1 y.2.1 y.2.2.1 y.2.2.2.1 y.2.2.2.2.1 y.2.2.2.2.2) N (S, x0, x1, x2, x3, x4)
def fX8_findFar_0 (N : Nat) (S : zS) (x0 : Nat) (x1 : Int32) (x2 : Int32) (x3 : Int32) : Option (zS) :=
  lX8_findFar_3 N S x0 x1 x2 x3 x2
def fX8_findFar (N : Nat) (S : zS) (x0 : Nat) (x1 : Int32) (x2 : Int32) (x3 : Int32) : Option (zS) := fX8_findFar_0 N S x0 x1 x2 x3
def fX8_note_0 (N : Nat) (S : zS) (x0 : Nat) (x1 : Int32) (x2 : Int32) (x3 : Int32) : Option (zS) :=
  (zgr S x0 8 25).bind fun v1 =>
  (zgi S x0 8 24).bind fun v2 =>
  (zis S v1 v2 x1).bind fun S3 =>
  (zgr S3 x0 8 26).bind fun v4 =>
  (zgi S3 x0 8 24).bind fun v5 =>
  (zis S3 v4 v5 x2).bind fun S6 =>
  (zgr S6 x0 8 27).bind fun v7 =>
  (zgi S6 x0 8 24).bind fun v8 =>
  (zis S6 v7 v8 x3).bind fun S9 =>
  (zgi S9 x0 8 24).bind fun v10 =>
  (zpi S9 x0 8 24 (v10 + (1 : Int32))).bind fun S11 =>
  some S11
def fX8_note (N : Nat) (S : zS) (x0 : Nat) (x1 : Int32) (x2 : Int32) (x3 : Int32) : Option (zS) := fX8_note_0 N S x0 x1 x2 x3
def fX8_changes_304 (N : Nat) (K85 : zS × Nat × Int32 × Int32 × Int32 × Int32 × Int32 → Option (Int32 × zS)) (S : zS) (x0 : Nat) (x3 : Int32) (x4 : Int32) (x5 : Int32) (x6 : Int32) (x7 : Int32) : Option (Int32 × zS) :=
  K85 (S, x0, x3, x4, x5, x6, x7)
def fX8_changes_287 (N : Nat) (K85 : zS × Nat × Int32 × Int32 × Int32 × Int32 × Int32 → Option (Int32 × zS)) (S : zS) (x0 : Nat) (x3 : Int32) (x4 : Int32) (x5 : Int32) (x6 : Int32) (x7 : Int32) : Option (Int32 × zS) :=
  (zrc S x0 8).bind fun u1 =>
  zb2 (fX8_second N S x0 x3 x7) fun v3 S2 =>
  (zrc S2 x0 8).bind fun u4 =>
  (fX8_note N S2 x0 (2 : Int32) x6 v3).bind fun S5 =>
  fX8_changes_304 N K85 S5 x0 x3 x4 x5 x6 (x7 + (1 : Int32))
def fX8_changes_243 (N : Nat) (K85 : zS × Nat × Int32 × Int32 × Int32 × Int32 × Int32 → Option (Int32 × zS)) (S : zS) (x0 : Nat) (x3 : Int32) (x4 : Int32) (x5 : Int32) (x6 : Int32) (x7 : Int32) (x8 : Int32) : Option (Int32 × zS) :=
  if x4 ≤ x6 then
    fX8_changes_287 N K85 S x0 x3 x4 x5 x6 x7
  else
    (zgr S x0 8 23).bind fun v6 =>
    (zil S v6 (((201 : Int32) * (x6 + (1 : Int32))) + x7)).bind fun v7 =>
    if (v7 + (1 : Int32)) = x8 then
      (zrc S x0 8).bind fun u8 =>
      (fX8_note N S x0 (1 : Int32) x6 (0 : Int32)).bind fun S9 =>
      fX8_changes_304 N K85 S9 x0 x3 x4 x5 (x6 + (1 : Int32)) x7
    else
      fX8_changes_287 N K85 S x0 x3 x4 x5 x6 x7
def fX8_changes_190 (N : Nat) (K85 : zS × Nat × Int32 × Int32 × Int32 × Int32 × Int32 → Option (Int32 × zS)) (S : zS) (x0 : Nat) (x3 : Int32) (x4 : Int32) (x5 : Int32) (x6 : Int32) (x7 : Int32) (x8 : Int32) (x9 : Int32) : Option (Int32 × zS) :=
  if x9 = (0 : Int32) then
    fX8_changes_243 N K85 S x0 x3 x4 x5 x6 x7 x8
  else
    (zgr S x0 8 23).bind fun v10 =>
    (zil S v10 ((((201 : Int32) * (x6 + (1 : Int32))) + x7) + (1 : Int32))).bind fun v11 =>
    if (v11 + (1 : Int32)) = x8 then
      (zrc S x0 8).bind fun u12 =>
      zb2 (fX8_second N S x0 x3 x7) fun v14 S13 =>
      (zrc S13 x0 8).bind fun u15 =>
      (fX8_note N S13 x0 (0 : Int32) x6 v14).bind fun S16 =>
      fX8_changes_304 N K85 S16 x0 x3 x4 x5 (x6 + (1 : Int32)) (x7 + (1 : Int32))
    else
      fX8_changes_243 N K85 S x0 x3 x4 x5 x6 x7 x8
def fX8_changes_134 (N : Nat) (K85 : zS × Nat × Int32 × Int32 × Int32 × Int32 × Int32 → Option (Int32 × zS)) (S : zS) (x0 : Nat) (x3 : Int32) (x4 : Int32) (x5 : Int32) (x6 : Int32) (x7 : Int32) (x8 : Int32) (y0 : Int32) : Option (Int32 × zS) :=
  if y0 = (0 : Int32) then
    fX8_changes_190 N K85 S x0 x3 x4 x5 x6 x7 x8 y0
  else
    (zrc S x0 8).bind fun u17 =>
    zb2 (fX8_first N S x0 x3 x6) fun v19 S18 =>
    (zrc S18 x0 8).bind fun u20 =>
    zb2 (fX8_second N S18 x0 x3 x7) fun v22 S21 =>
    if v19 = v22 then
      (zgr S21 x0 8 23).bind fun v23 =>
      (zil S21 v23 ((((201 : Int32) * (x6 + (1 : Int32))) + x7) + (1 : Int32))).bind fun v24 =>
      if v24 = x8 then
        fX8_changes_304 N K85 S21 x0 x3 x4 x5 (x6 + (1 : Int32)) (x7 + (1 : Int32))
      else
        fX8_changes_190 N K85 S21 x0 x3 x4 x5 x6 x7 x8 y0
    else
      fX8_changes_190 N K85 S21 x0 x3 x4 x5 x6 x7 x8 y0
def fX8_changes_133 (N : Nat) (K85 : zS × Nat × Int32 × Int32 × Int32 × Int32 × Int32 → Option (Int32 × zS)) (S : zS) (x0 : Nat) (x3 : Int32) (x4 : Int32) (x5 : Int32) (x6 : Int32) (x7 : Int32) (x8 : Int32) : Option (Int32 × zS) :=
  fX8_changes_134 N K85 S x0 x3 x4 x5 x6 x7 x8 (0 : Int32)
def fX8_changes_99 (N : Nat) (K85 : zS × Nat × Int32 × Int32 × Int32 × Int32 × Int32 → Option (Int32 × zS)) (S : zS) (x0 : Nat) (x3 : Int32) (x4 : Int32) (x5 : Int32) (x6 : Int32) (x7 : Int32) : Option (Int32 × zS) :=
  (zgr S x0 8 23).bind fun v25 =>
  (zil S v25 (((201 : Int32) * x6) + x7)).bind fun v26 =>
  if x4 ≤ x6 then
    fX8_changes_133 N K85 S x0 x3 x4 x5 x6 x7 v26
  else
    if x5 ≤ x7 then
      fX8_changes_133 N K85 S x0 x3 x4 x5 x6 x7 v26
    else
      fX8_changes_134 N K85 S x0 x3 x4 x5 x6 x7 v26 (1 : Int32)
def fX8_changes_85 (N : Nat) (K85 : zS × Nat × Int32 × Int32 × Int32 × Int32 × Int32 → Option (Int32 × zS)) (S : zS) (x0 : Nat) (x3 : Int32) (x4 : Int32) (x5 : Int32) (x6 : Int32) (x7 : Int32) : Option (Int32 × zS) :=
  if x6 < x4 then
    fX8_changes_99 N K85 S x0 x3 x4 x5 x6 x7
  else
    if x5 ≤ x7 then
      (zgi S x0 8 24).bind fun v27 =>
      some (v27, S)
    else
      fX8_changes_99 N K85 S x0 x3 x4 x5 x6 x7
def lX8_changes_85 (N : Nat)  (S : zS) (x0 : Nat) (x3 : Int32) (x4 : Int32) (x5 : Int32) (x6 : Int32) (x7 : Int32) : Option (Int32 × zS) := zloop (fun K y => fX8_changes_85 N K y.1 y.2.1 y.2.2.1 y.2.2.2.1 y.2.2.2.2.1 y.2.2.2.2.2.1 y.2.2.2.2.2.2) N (S, x0, x3, x4, x5, x6, x7)
def fX8_changes_62 (N : Nat) (S : zS) : Option (Int32 × zS) :=
  some ((-2 : Int32), S)
def fX8_changes_22 (N : Nat) (S : zS) : Option (Int32 × zS) :=
  some ((-1 : Int32), S)
def fX8_changes_0 (N : Nat) (S : zS) (x0 : Nat) (x1 : Int32) (x2 : Int32) (x3 : Int32) : Option (Int32 × zS) :=
  zb2 (fX8_isRoom N S x1) fun v29 S28 =>
  if v29 = (0 : Int32) then
    fX8_changes_22 N S28
  else
    zb2 (fX8_isRoom N S28 x2) fun v31 S30 =>
    if v31 = (0 : Int32) then
      fX8_changes_22 N S30
    else
      (zrc S30 x0 8).bind fun u32 =>
      zb2 (fX8_isStep N S30 x0 x3) fun v34 S33 =>
      if v34 = (0 : Int32) then
        fX8_changes_22 N S33
      else
        (zrc S33 x0 8).bind fun u35 =>
        (fX8_both N S33 x0 x1 x2 x3).bind fun S36 =>
        (zgr S36 x0 8 15).bind fun v37 =>
        (zil S36 v37 x3).bind fun v38 =>
        (zgr S36 x0 8 15).bind fun v39 =>
        (zil S36 v39 ((24 : Int32) + x3)).bind fun v40 =>
        if v38 = (-1 : Int32) then
          fX8_changes_62 N S36
        else
          if v40 = (-1 : Int32) then
            fX8_changes_62 N S36
          else
            (zrc S36 x0 8).bind fun u41 =>
            (fX8_findFar N S36 x0 x3 v38 v40).bind fun S42 =>
            (zpi S42 x0 8 24 (0 : Int32)).bind fun S43 =>
            lX8_changes_85 N S43 x0 x3 v38 v40 (0 : Int32) (0 : Int32)
def fX8_changes (N : Nat) (S : zS) (x0 : Nat) (x1 : Int32) (x2 : Int32) (x3 : Int32) : Option (Int32 × zS) := fX8_changes_0 N S x0 x1 x2 x3
def fX8_change_58 (N : Nat) (S : zS) (y0 : Int32) : Option (Int32 × zS) :=
  some (y0, S)
def fX8_change_23 (N : Nat) (S : zS) : Option (Int32 × zS) :=
  some ((-1 : Int32), S)
def fX8_change_0 (N : Nat) (S : zS) (x0 : Nat) (x1 : Int32) (x2 : Int32) : Option (Int32 × zS) :=
  (zgi S x0 8 24).bind fun v1 =>
  zb2 (fX8_in N S x1 (0 : Int32) (v1 - (1 : Int32))) fun v3 S2 =>
  if v3 = (0 : Int32) then
    fX8_change_23 N S2
  else
    zb2 (fX8_in N S2 x2 (0 : Int32) (2 : Int32)) fun v5 S4 =>
    if v5 = (0 : Int32) then
      fX8_change_23 N S4
    else
      if x2 = (0 : Int32) then
        (zgr S4 x0 8 25).bind fun v10 =>
        (zil S4 v10 x1).bind fun v11 =>
        fX8_change_58 N S4 v11
      else
        if x2 = (1 : Int32) then
          (zgr S4 x0 8 26).bind fun v8 =>
          (zil S4 v8 x1).bind fun v9 =>
          fX8_change_58 N S4 v9
        else
          (zgr S4 x0 8 27).bind fun v6 =>
          (zil S4 v6 x1).bind fun v7 =>
          fX8_change_58 N S4 v7
def fX8_change (N : Nat) (S : zS) (x0 : Nat) (x1 : Int32) (x2 : Int32) : Option (Int32 × zS) := fX8_change_0 N S x0 x1 x2
def fX8_cause_163 (N : Nat) (K52 : zS × Nat × Int32 × Int32 × Int32 → Option (Int32 × zS)) (S : zS) (x0 : Nat) (x3 : Int32) (x4 : Int32) (x5 : Int32) : Option (Int32 × zS) :=
  K52 (S, x0, x3, x4, (x5 + (1 : Int32)))
def fX8_cause_147 (N : Nat) (K52 : zS × Nat × Int32 × Int32 × Int32 → Option (Int32 × zS)) (K86 : zS × Nat × Int32 × Int32 × Int32 × Int32 × Int32 → Option (Int32 × zS)) (S : zS) (x0 : Nat) (x3 : Int32) (x4 : Int32) (x5 : Int32) (x7 : Int32) (y0 : Int32) : Option (Int32 × zS) :=
  K86 (S, x0, x3, x4, x5, y0, (x7 + (1 : Int32)))
def fX8_cause_146 (N : Nat) (K52 : zS × Nat × Int32 × Int32 × Int32 → Option (Int32 × zS)) (K86 : zS × Nat × Int32 × Int32 × Int32 × Int32 × Int32 → Option (Int32 × zS)) (S : zS) (x0 : Nat) (x3 : Int32) (x4 : Int32) (x5 : Int32) (x7 : Int32) : Option (Int32 × zS) :=
  fX8_cause_147 N K52 K86 S x0 x3 x4 x5 x7 (0 : Int32)
def fX8_cause_142 (N : Nat) (K52 : zS × Nat × Int32 × Int32 × Int32 → Option (Int32 × zS)) (K86 : zS × Nat × Int32 × Int32 × Int32 × Int32 × Int32 → Option (Int32 × zS)) (S : zS) (x0 : Nat) (x3 : Int32) (x4 : Int32) (x5 : Int32) (x7 : Int32) : Option (Int32 × zS) :=
  fX8_cause_147 N K52 K86 S x0 x3 x4 x5 x7 (1 : Int32)
def fX8_cause_86 (N : Nat) (K52 : zS × Nat × Int32 × Int32 × Int32 → Option (Int32 × zS)) (K86 : zS × Nat × Int32 × Int32 × Int32 × Int32 × Int32 → Option (Int32 × zS)) (S : zS) (x0 : Nat) (x3 : Int32) (x4 : Int32) (x5 : Int32) (x6 : Int32) (x7 : Int32) : Option (Int32 × zS) :=
  (zgr S x0 8 12).bind fun v1 =>
  (zil S v1 x5).bind fun v2 =>
  if v2 ≤ x7 then
    if x6 = (0 : Int32) then
      fX8_cause_163 N K52 S x0 x3 x4 x5
    else
      some (x5, S)
  else
    if x6 = (0 : Int32) then
      fX8_cause_146 N K52 K86 S x0 x3 x4 x5 x7
    else
      (zgr S x0 8 13).bind fun v3 =>
      (zil S v3 (((4 : Int32) * x5) + x7)).bind fun v4 =>
      if v4 < (100 : Int32) then
        fX8_cause_142 N K52 K86 S x0 x3 x4 x5 x7
      else
        (zgr S x0 8 13).bind fun v5 =>
        (zil S v5 (((4 : Int32) * x5) + x7)).bind fun v6 =>
        (zrc S x0 8).bind fun u7 =>
        zb2 (fX8_areAlike N S x0 (v6 - (100 : Int32))) fun v9 S8 =>
        if v9 = (0 : Int32) then
          fX8_cause_146 N K52 K86 S8 x0 x3 x4 x5 x7
        else
          fX8_cause_142 N K52 K86 S8 x0 x3 x4 x5 x7
def lX8_cause_86 (N : Nat) (K52 : zS × Nat × Int32 × Int32 × Int32 → Option (Int32 × zS)) (S : zS) (x0 : Nat) (x3 : Int32) (x4 : Int32) (x5 : Int32) (x6 : Int32) (x7 : Int32) : Option (Int32 × zS) := zloop (fun K y => fX8_cause_86 N K52 K y.1 y.2.1 y.2.2.1 y.2.2.2.1 y.2.2.2.2.1 y.2.2.2.2.2.1 y.2.2.2.2.2.2) N (S, x0, x3, x4, x5, x6, x7)
def fX8_cause_52 (N : Nat) (K52 : zS × Nat × Int32 × Int32 × Int32 → Option (Int32 × zS)) (S : zS) (x0 : Nat) (x3 : Int32) (x4 : Int32) (x5 : Int32) : Option (Int32 × zS) :=
  if x3 < x5 then
    some ((-2 : Int32), S)
  else
    if ((x4 >>> (x5 &&& 31)) &&& (1 : Int32)) = (0 : Int32) then
      fX8_cause_163 N K52 S x0 x3 x4 x5
    else
      (zrc S x0 8).bind fun u10 =>
      zb2 (fX8_areAlike N S x0 x5) fun v12 S11 =>
      if v12 = (0 : Int32) then
        lX8_cause_86 N K52 S11 x0 x3 x4 x5 (1 : Int32) (0 : Int32)
      else
        fX8_cause_163 N K52 S11 x0 x3 x4 x5
def lX8_cause_52 (N : Nat)  (S : zS) (x0 : Nat) (x3 : Int32) (x4 : Int32) (x5 : Int32) : Option (Int32 × zS) := zloop (fun K y => fX8_cause_52 N K y.1 y.2.1 y.2.2.1 y.2.2.2.1 y.2.2.2.2) N (S, x0, x3, x4, x5)
def fX8_cause_22 (N : Nat) (S : zS) : Option (Int32 × zS) :=
  some ((-1 : Int32), S)
def fX8_cause_0 (N : Nat) (S : zS) (x0 : Nat) (x1 : Int32) (x2 : Int32) (x3 : Int32) : Option (Int32 × zS) :=
  zb2 (fX8_isRoom N S x1) fun v14 S13 =>
  if v14 = (0 : Int32) then
    fX8_cause_22 N S13
  else
    zb2 (fX8_isRoom N S13 x2) fun v16 S15 =>
    if v16 = (0 : Int32) then
      fX8_cause_22 N S15
    else
      (zrc S15 x0 8).bind fun u17 =>
      zb2 (fX8_isStep N S15 x0 x3) fun v19 S18 =>
      if v19 = (0 : Int32) then
        fX8_cause_22 N S18
      else
        (zrc S18 x0 8).bind fun u20 =>
        (fX8_both N S18 x0 x1 x2 x3).bind fun S21 =>
        (zrc S21 x0 8).bind fun u22 =>
        zb2 (fX8_areAlike N S21 x0 x3) fun v24 S23 =>
        if v24 = (0 : Int32) then
          (zrc S23 x0 8).bind fun u25 =>
          zb2 (fX8_usedBy N S23 x0 x3) fun v27 S26 =>
          lX8_cause_52 N S26 x0 x3 v27 (0 : Int32)
        else
          some ((-2 : Int32), S23)
def fX8_cause (N : Nat) (S : zS) (x0 : Nat) (x1 : Int32) (x2 : Int32) (x3 : Int32) : Option (Int32 × zS) := fX8_cause_0 N S x0 x1 x2 x3
def fX8_fix_138 (N : Nat) (K41 : zS × Nat × Int32 × Int32 × Int32 × Int32 × Int32 → Option (Int32 × zS)) (S : zS) (x0 : Nat) (x1 : Int32) (x2 : Int32) (x3 : Int32) (x4 : Int32) (x5 : Int32) : Option (Int32 × zS) :=
  K41 (S, x0, x1, x2, x3, x4, (x5 + (1 : Int32)))
def fX8_fix_108 (N : Nat) (K41 : zS × Nat × Int32 × Int32 × Int32 × Int32 × Int32 → Option (Int32 × zS)) (K73 : zS × Nat × Int32 × Int32 × Int32 × Int32 × Int32 × Int32 → Option (Int32 × zS)) (S : zS) (x0 : Nat) (x1 : Int32) (x2 : Int32) (x3 : Int32) (x4 : Int32) (x5 : Int32) (x6 : Int32) (y0 : Nat) (y1 : Int32) (y2 : Nat) (y3 : Int32) (y4 : Int32) : Option (Int32 × zS) :=
  (zil S y2 ((y3 * y4) + x6)).bind fun v1 =>
  (zis S y0 y1 v1).bind fun S2 =>
  K73 (S2, x0, x1, x2, x3, x4, x5, (x6 + (1 : Int32)))
def fX8_fix_73 (N : Nat) (K41 : zS × Nat × Int32 × Int32 × Int32 × Int32 × Int32 → Option (Int32 × zS)) (K73 : zS × Nat × Int32 × Int32 × Int32 × Int32 × Int32 × Int32 → Option (Int32 × zS)) (S : zS) (x0 : Nat) (x1 : Int32) (x2 : Int32) (x3 : Int32) (x4 : Int32) (x5 : Int32) (x6 : Int32) : Option (Int32 × zS) :=
  if (8 : Int32) ≤ x6 then
    (zrc S x0 8).bind fun u3 =>
    (fX8_build N S x0 (1 : Int32) x3).bind fun S4 =>
    (zrc S4 x0 8).bind fun u5 =>
    zb2 (fX8_areAlike N S4 x0 x3) fun v7 S6 =>
    if v7 = (0 : Int32) then
      fX8_fix_138 N K41 S6 x0 x1 x2 x3 x4 x5
    else
      fX8_fix_138 N K41 S6 x0 x1 x2 x3 x5 x5
  else
    (zgr S x0 8 14).bind fun v8 =>
    (zgr S x0 8 7).bind fun v9 =>
    if ((x5 >>> (x6 &&& 31)) &&& (1 : Int32)) = (1 : Int32) then
      fX8_fix_108 N K41 K73 S x0 x1 x2 x3 x4 x5 x6 v8 x6 v9 (8 : Int32) x1
    else
      fX8_fix_108 N K41 K73 S x0 x1 x2 x3 x4 x5 x6 v8 x6 v9 (8 : Int32) x2
def lX8_fix_73 (N : Nat) (K41 : zS × Nat × Int32 × Int32 × Int32 × Int32 × Int32 → Option (Int32 × zS)) (S : zS) (x0 : Nat) (x1 : Int32) (x2 : Int32) (x3 : Int32) (x4 : Int32) (x5 : Int32) (x6 : Int32) : Option (Int32 × zS) := zloop (fun K y => fX8_fix_73 N K41 K y.1 y.2.1 y.2.2.1 y.2.2.2.1 y.2.2.2.2.1 y.2.2.2.2.2.1 y.2.2.2.2.2.2.1 y.2.2.2.2.2.2.2) N (S, x0, x1, x2, x3, x4, x5, x6)
def fX8_fix_70 (N : Nat) (K41 : zS × Nat × Int32 × Int32 × Int32 × Int32 × Int32 → Option (Int32 × zS)) (S : zS) (x0 : Nat) (x1 : Int32) (x2 : Int32) (x3 : Int32) (x4 : Int32) (x5 : Int32) : Option (Int32 × zS) :=
  lX8_fix_73 N K41 S x0 x1 x2 x3 x4 x5 (0 : Int32)
def fX8_fix_41 (N : Nat) (K41 : zS × Nat × Int32 × Int32 × Int32 × Int32 × Int32 → Option (Int32 × zS)) (S : zS) (x0 : Nat) (x1 : Int32) (x2 : Int32) (x3 : Int32) (x4 : Int32) (x5 : Int32) : Option (Int32 × zS) :=
  if (256 : Int32) ≤ x5 then
    some (x4, S)
  else
    if x4 < (0 : Int32) then
      fX8_fix_70 N K41 S x0 x1 x2 x3 x4 x5
    else
      zb2 (fX8_bits N S x5) fun v11 S10 =>
      zb2 (fX8_bits N S10 x4) fun v13 S12 =>
      if v11 < v13 then
        fX8_fix_70 N K41 S12 x0 x1 x2 x3 x4 x5
      else
        fX8_fix_138 N K41 S12 x0 x1 x2 x3 x4 x5
def lX8_fix_41 (N : Nat)  (S : zS) (x0 : Nat) (x1 : Int32) (x2 : Int32) (x3 : Int32) (x4 : Int32) (x5 : Int32) : Option (Int32 × zS) := zloop (fun K y => fX8_fix_41 N K y.1 y.2.1 y.2.2.1 y.2.2.2.1 y.2.2.2.2.1 y.2.2.2.2.2.1 y.2.2.2.2.2.2) N (S, x0, x1, x2, x3, x4, x5)
def fX8_fix_22 (N : Nat) (S : zS) : Option (Int32 × zS) :=
  some ((-1 : Int32), S)
def fX8_fix_0 (N : Nat) (S : zS) (x0 : Nat) (x1 : Int32) (x2 : Int32) (x3 : Int32) : Option (Int32 × zS) :=
  zb2 (fX8_isRoom N S x1) fun v15 S14 =>
  if v15 = (0 : Int32) then
    fX8_fix_22 N S14
  else
    zb2 (fX8_isRoom N S14 x2) fun v17 S16 =>
    if v17 = (0 : Int32) then
      fX8_fix_22 N S16
    else
      (zrc S16 x0 8).bind fun u18 =>
      zb2 (fX8_isStep N S16 x0 x3) fun v20 S19 =>
      if v20 = (0 : Int32) then
        fX8_fix_22 N S19
      else
        (zrc S19 x0 8).bind fun u21 =>
        (fX8_take N S19 x0 x1).bind fun S22 =>
        (zrc S22 x0 8).bind fun u23 =>
        (fX8_build N S22 x0 (0 : Int32) x3).bind fun S24 =>
        lX8_fix_41 N S24 x0 x1 x2 x3 (-1 : Int32) (0 : Int32)
def fX8_fix (N : Nat) (S : zS) (x0 : Nat) (x1 : Int32) (x2 : Int32) (x3 : Int32) : Option (Int32 × zS) := fX8_fix_0 N S x0 x1 x2 x3
def fX8_breaking_14 (N : Nat) (K14 : zS × Nat × Int32 × Int32 × Int32 × Int32 → Option (Int32 × zS)) (S : zS) (x0 : Nat) (x2 : Int32) (x3 : Int32) (x4 : Int32) (x5 : Int32) : Option (Int32 × zS) :=
  if x4 < x5 then
    some ((-2 : Int32), S)
  else
    (zgr S x0 8 14).bind fun v1 =>
    (zis S v1 x3 x5).bind fun S2 =>
    (zrc S2 x0 8).bind fun u3 =>
    (fX8_build N S2 x0 (1 : Int32) x2).bind fun S4 =>
    (zrc S4 x0 8).bind fun u5 =>
    zb2 (fX8_areAlike N S4 x0 x2) fun v7 S6 =>
    if v7 = (0 : Int32) then
      some (x5, S6)
    else
      K14 (S6, x0, x2, x3, x4, (x5 + (1 : Int32)))
def lX8_breaking_14 (N : Nat)  (S : zS) (x0 : Nat) (x2 : Int32) (x3 : Int32) (x4 : Int32) (x5 : Int32) : Option (Int32 × zS) := zloop (fun K y => fX8_breaking_14 N K y.1 y.2.1 y.2.2.1 y.2.2.2.1 y.2.2.2.2.1 y.2.2.2.2.2) N (S, x0, x2, x3, x4, x5)
def fX8_breaking_0 (N : Nat) (S : zS) (x0 : Nat) (x1 : Int32) (x2 : Int32) (x3 : Int32) (x4 : Int32) : Option (Int32 × zS) :=
  (zrc S x0 8).bind fun u8 =>
  (fX8_take N S x0 x1).bind fun S9 =>
  (zrc S9 x0 8).bind fun u10 =>
  (fX8_build N S9 x0 (0 : Int32) x2).bind fun S11 =>
  lX8_breaking_14 N S11 x0 x2 x3 x4 (0 : Int32)
def fX8_breaking (N : Nat) (S : zS) (x0 : Nat) (x1 : Int32) (x2 : Int32) (x3 : Int32) (x4 : Int32) : Option (Int32 × zS) := fX8_breaking_0 N S x0 x1 x2 x3 x4
def fX8_stable_57 (N : Nat) (S : zS) (y0 : Int32) : Option (Int32 × zS) :=
  some (y0, S)
def fX8_stable_34 (N : Nat) (S : zS) : Option (Int32 × zS) :=
  fX8_stable_57 N S (-1 : Int32)
def fX8_stable_0 (N : Nat) (S : zS) (x0 : Nat) (x1 : Int32) (x2 : Int32) (x3 : Int32) (x4 : Int32) : Option (Int32 × zS) :=
  zb2 (fX8_isRoom N S x1) fun v2 S1 =>
  if v2 = (0 : Int32) then
    fX8_stable_34 N S1
  else
    (zrc S1 x0 8).bind fun u3 =>
    zb2 (fX8_isStep N S1 x0 x2) fun v5 S4 =>
    if v5 = (0 : Int32) then
      fX8_stable_34 N S4
    else
      zb2 (fX8_isWord N S4 x3) fun v7 S6 =>
      if v7 = (0 : Int32) then
        fX8_stable_34 N S6
      else
        zb2 (fX8_in N S6 x4 (0 : Int32) (255 : Int32)) fun v9 S8 =>
        if v9 = (0 : Int32) then
          fX8_stable_34 N S8
        else
          (zrc S8 x0 8).bind fun u10 =>
          zb2 (fX8_breaking N S8 x0 x1 x2 x3 x4) fun v12 S11 =>
          if v12 = (-2 : Int32) then
            fX8_stable_57 N S11 (1 : Int32)
          else
            fX8_stable_57 N S11 (0 : Int32)
def fX8_stable (N : Nat) (S : zS) (x0 : Nat) (x1 : Int32) (x2 : Int32) (x3 : Int32) (x4 : Int32) : Option (Int32 × zS) := fX8_stable_0 N S x0 x1 x2 x3 x4
def fX8_breaks_36 (N : Nat) (S : zS) (y0 : Int32) : Option (Int32 × zS) :=
  some (y0, S)
def fX8_breaks_35 (N : Nat) (S : zS) : Option (Int32 × zS) :=
  fX8_breaks_36 N S (-1 : Int32)
def fX8_breaks_0 (N : Nat) (S : zS) (x0 : Nat) (x1 : Int32) (x2 : Int32) (x3 : Int32) : Option (Int32 × zS) :=
  zb2 (fX8_isRoom N S x1) fun v2 S1 =>
  if v2 = (0 : Int32) then
    fX8_breaks_35 N S1
  else
    (zrc S1 x0 8).bind fun u3 =>
    zb2 (fX8_isStep N S1 x0 x2) fun v5 S4 =>
    if v5 = (0 : Int32) then
      fX8_breaks_35 N S4
    else
      zb2 (fX8_isWord N S4 x3) fun v7 S6 =>
      if v7 = (0 : Int32) then
        fX8_breaks_35 N S6
      else
        (zrc S6 x0 8).bind fun u8 =>
        zb2 (fX8_breaking N S6 x0 x1 x2 x3 (255 : Int32)) fun v10 S9 =>
        fX8_breaks_36 N S9 v10
def fX8_breaks (N : Nat) (S : zS) (x0 : Nat) (x1 : Int32) (x2 : Int32) (x3 : Int32) : Option (Int32 × zS) := fX8_breaks_0 N S x0 x1 x2 x3
def fX8_areEnough_120 (N : Nat) (K2 : zS × Nat × Int32 × Int32 × Int32 → Option (Int32 × zS)) (S : zS) (x0 : Nat) (x1 : Int32) (x2 : Int32) (x3 : Int32) : Option (Int32 × zS) :=
  K2 (S, x0, x1, x2, (x3 + (1 : Int32)))
def fX8_areEnough_99 (N : Nat) (K2 : zS × Nat × Int32 × Int32 × Int32 → Option (Int32 × zS)) (K25 : zS × Nat × Int32 × Int32 × Int32 × Int32 × Int32 → Option (Int32 × zS)) (K35 : zS × Nat × Int32 × Int32 × Int32 × Int32 × Int32 × Int32 → Option (Int32 × zS)) (S : zS) (x0 : Nat) (x1 : Int32) (x2 : Int32) (x3 : Int32) (x5 : Int32) (x6 : Int32) (y0 : Int32) : Option (Int32 × zS) :=
  K35 (S, x0, x1, x2, x3, y0, x5, (x6 + (1 : Int32)))
def fX8_areEnough_98 (N : Nat) (K2 : zS × Nat × Int32 × Int32 × Int32 → Option (Int32 × zS)) (K25 : zS × Nat × Int32 × Int32 × Int32 × Int32 × Int32 → Option (Int32 × zS)) (K35 : zS × Nat × Int32 × Int32 × Int32 × Int32 × Int32 × Int32 → Option (Int32 × zS)) (S : zS) (x0 : Nat) (x1 : Int32) (x2 : Int32) (x3 : Int32) (x5 : Int32) (x6 : Int32) : Option (Int32 × zS) :=
  fX8_areEnough_99 N K2 K25 K35 S x0 x1 x2 x3 x5 x6 (0 : Int32)
def fX8_areEnough_94 (N : Nat) (K2 : zS × Nat × Int32 × Int32 × Int32 → Option (Int32 × zS)) (K25 : zS × Nat × Int32 × Int32 × Int32 × Int32 × Int32 → Option (Int32 × zS)) (K35 : zS × Nat × Int32 × Int32 × Int32 × Int32 × Int32 × Int32 → Option (Int32 × zS)) (S : zS) (x0 : Nat) (x1 : Int32) (x2 : Int32) (x3 : Int32) (x5 : Int32) (x6 : Int32) : Option (Int32 × zS) :=
  fX8_areEnough_99 N K2 K25 K35 S x0 x1 x2 x3 x5 x6 (1 : Int32)
def fX8_areEnough_35 (N : Nat) (K2 : zS × Nat × Int32 × Int32 × Int32 → Option (Int32 × zS)) (K25 : zS × Nat × Int32 × Int32 × Int32 × Int32 × Int32 → Option (Int32 × zS)) (K35 : zS × Nat × Int32 × Int32 × Int32 × Int32 × Int32 × Int32 → Option (Int32 × zS)) (S : zS) (x0 : Nat) (x1 : Int32) (x2 : Int32) (x3 : Int32) (x4 : Int32) (x5 : Int32) (x6 : Int32) : Option (Int32 × zS) :=
  if x5 ≤ x6 then
    K25 (S, x0, x1, x2, x3, x4, (x5 + (1 : Int32)))
  else
    if x4 = (0 : Int32) then
      if ((x1 >>> (x5 &&& 31)) &&& (1 : Int32)) = (1 : Int32) then
        if ((x1 >>> (x6 &&& 31)) &&& (1 : Int32)) = (1 : Int32) then
          (zgr S x0 8 7).bind fun v1 =>
          (zil S v1 (((8 : Int32) * x5) + x3)).bind fun v2 =>
          (zgr S x0 8 7).bind fun v3 =>
          (zil S v3 (((8 : Int32) * x6) + x3)).bind fun v4 =>
          if v2 = v4 then
            fX8_areEnough_98 N K2 K25 K35 S x0 x1 x2 x3 x5 x6
          else
            fX8_areEnough_94 N K2 K25 K35 S x0 x1 x2 x3 x5 x6
        else
          fX8_areEnough_98 N K2 K25 K35 S x0 x1 x2 x3 x5 x6
      else
        fX8_areEnough_98 N K2 K25 K35 S x0 x1 x2 x3 x5 x6
    else
      fX8_areEnough_94 N K2 K25 K35 S x0 x1 x2 x3 x5 x6
def lX8_areEnough_35 (N : Nat) (K2 : zS × Nat × Int32 × Int32 × Int32 → Option (Int32 × zS)) (K25 : zS × Nat × Int32 × Int32 × Int32 × Int32 × Int32 → Option (Int32 × zS)) (S : zS) (x0 : Nat) (x1 : Int32) (x2 : Int32) (x3 : Int32) (x4 : Int32) (x5 : Int32) (x6 : Int32) : Option (Int32 × zS) := zloop (fun K y => fX8_areEnough_35 N K2 K25 K y.1 y.2.1 y.2.2.1 y.2.2.2.1 y.2.2.2.2.1 y.2.2.2.2.2.1 y.2.2.2.2.2.2.1 y.2.2.2.2.2.2.2) N (S, x0, x1, x2, x3, x4, x5, x6)
def fX8_areEnough_25 (N : Nat) (K2 : zS × Nat × Int32 × Int32 × Int32 → Option (Int32 × zS)) (K25 : zS × Nat × Int32 × Int32 × Int32 × Int32 × Int32 → Option (Int32 × zS)) (S : zS) (x0 : Nat) (x1 : Int32) (x2 : Int32) (x3 : Int32) (x4 : Int32) (x5 : Int32) : Option (Int32 × zS) :=
  if (8 : Int32) ≤ x5 then
    if x4 = (0 : Int32) then
      some ((0 : Int32) &&& 1, S)
    else
      fX8_areEnough_120 N K2 S x0 x1 x2 x3
  else
    lX8_areEnough_35 N K2 K25 S x0 x1 x2 x3 x4 x5 (0 : Int32)
def lX8_areEnough_25 (N : Nat) (K2 : zS × Nat × Int32 × Int32 × Int32 → Option (Int32 × zS)) (S : zS) (x0 : Nat) (x1 : Int32) (x2 : Int32) (x3 : Int32) (x4 : Int32) (x5 : Int32) : Option (Int32 × zS) := zloop (fun K y => fX8_areEnough_25 N K2 K y.1 y.2.1 y.2.2.1 y.2.2.2.1 y.2.2.2.2.1 y.2.2.2.2.2.1 y.2.2.2.2.2.2) N (S, x0, x1, x2, x3, x4, x5)
def fX8_areEnough_2 (N : Nat) (K2 : zS × Nat × Int32 × Int32 × Int32 → Option (Int32 × zS)) (S : zS) (x0 : Nat) (x1 : Int32) (x2 : Int32) (x3 : Int32) : Option (Int32 × zS) :=
  if (8 : Int32) ≤ x3 then
    some ((1 : Int32) &&& 1, S)
  else
    if ((x2 >>> (x3 &&& 31)) &&& (1 : Int32)) = (0 : Int32) then
      fX8_areEnough_120 N K2 S x0 x1 x2 x3
    else
      lX8_areEnough_25 N K2 S x0 x1 x2 x3 (0 : Int32) (0 : Int32)
def lX8_areEnough_2 (N : Nat)  (S : zS) (x0 : Nat) (x1 : Int32) (x2 : Int32) (x3 : Int32) : Option (Int32 × zS) := zloop (fun K y => fX8_areEnough_2 N K y.1 y.2.1 y.2.2.1 y.2.2.2.1 y.2.2.2.2) N (S, x0, x1, x2, x3)
def fX8_areEnough_0 (N : Nat) (S : zS) (x0 : Nat) (x1 : Int32) (x2 : Int32) : Option (Int32 × zS) :=
  lX8_areEnough_2 N S x0 x1 x2 (0 : Int32)
def fX8_areEnough (N : Nat) (S : zS) (x0 : Nat) (x1 : Int32) (x2 : Int32) : Option (Int32 × zS) := fX8_areEnough_0 N S x0 x1 x2
def fX8_rooms_105 (N : Nat) (S : zS) (y0 : Int32) : Option (Int32 × zS) :=
  some (y0, S)
def fX8_rooms_87 (N : Nat) (K35 : zS × Nat × Int32 × Int32 × Int32 × Int32 → Option (Int32 × zS)) (S : zS) (x0 : Nat) (x2 : Int32) (x3 : Int32) (x4 : Int32) (x5 : Int32) : Option (Int32 × zS) :=
  K35 (S, x0, x2, x3, x4, (x5 + (1 : Int32)))
def fX8_rooms_73 (N : Nat) (K35 : zS × Nat × Int32 × Int32 × Int32 × Int32 → Option (Int32 × zS)) (S : zS) (x0 : Nat) (x2 : Int32) (x3 : Int32) (x4 : Int32) (x5 : Int32) : Option (Int32 × zS) :=
  (zrc S x0 8).bind fun u1 =>
  zb2 (fX8_areEnough N S x0 x5 x3) fun v3 S2 =>
  if v3 = (0 : Int32) then
    fX8_rooms_87 N K35 S2 x0 x2 x3 x4 x5
  else
    fX8_rooms_87 N K35 S2 x0 x2 x3 x5 x5
def fX8_rooms_35 (N : Nat) (K35 : zS × Nat × Int32 × Int32 × Int32 × Int32 → Option (Int32 × zS)) (S : zS) (x0 : Nat) (x2 : Int32) (x3 : Int32) (x4 : Int32) (x5 : Int32) : Option (Int32 × zS) :=
  if (256 : Int32) ≤ x5 then
    if (0 : Int32) ≤ x4 then
      fX8_rooms_105 N S x4
    else
      fX8_rooms_105 N S (-2 : Int32)
  else
    if (x5 &&& (x2 ^^^ (-1 : Int32))) = (0 : Int32) then
      if x4 < (0 : Int32) then
        fX8_rooms_73 N K35 S x0 x2 x3 x4 x5
      else
        zb2 (fX8_bits N S x5) fun v5 S4 =>
        zb2 (fX8_bits N S4 x4) fun v7 S6 =>
        if v5 < v7 then
          fX8_rooms_73 N K35 S6 x0 x2 x3 x4 x5
        else
          fX8_rooms_87 N K35 S6 x0 x2 x3 x4 x5
    else
      fX8_rooms_87 N K35 S x0 x2 x3 x4 x5
def lX8_rooms_35 (N : Nat)  (S : zS) (x0 : Nat) (x2 : Int32) (x3 : Int32) (x4 : Int32) (x5 : Int32) : Option (Int32 × zS) := zloop (fun K y => fX8_rooms_35 N K y.1 y.2.1 y.2.2.1 y.2.2.2.1 y.2.2.2.2.1 y.2.2.2.2.2) N (S, x0, x2, x3, x4, x5)
def fX8_rooms_19 (N : Nat) (S : zS) : Option (Int32 × zS) :=
  some ((-1 : Int32), S)
def fX8_rooms_0 (N : Nat) (S : zS) (x0 : Nat) (x1 : Int32) (x2 : Int32) : Option (Int32 × zS) :=
  (zrc S x0 8).bind fun u8 =>
  zb2 (fX8_isStep N S x0 x1) fun v10 S9 =>
  if v10 = (0 : Int32) then
    fX8_rooms_19 N S9
  else
    zb2 (fX8_in N S9 x2 (1 : Int32) (255 : Int32)) fun v12 S11 =>
    if v12 = (0 : Int32) then
      fX8_rooms_19 N S11
    else
      (zrc S11 x0 8).bind fun u13 =>
      zb2 (fX8_wordsOf N S11 x0 (0 : Int32) x1 (1 : Int32)) fun v15 S14 =>
      lX8_rooms_35 N S14 x0 x2 v15 (-1 : Int32) (1 : Int32)
def fX8_rooms (N : Nat) (S : zS) (x0 : Nat) (x1 : Int32) (x2 : Int32) : Option (Int32 × zS) := fX8_rooms_0 N S x0 x1 x2
def fX8_isMaker_0 (N : Nat) (S : zS) (x0 : Int32) : Option (Int32 × zS) :=
  zb2 (fX8_in N S x0 (0 : Int32) (29 : Int32)) fun v2 S1 =>
  some (v2 &&& 1, S1)
def fX8_isMaker (N : Nat) (S : zS) (x0 : Int32) : Option (Int32 × zS) := fX8_isMaker_0 N S x0
def fX8_maker_50 (N : Nat) (S : zS) (y0 : Nat) (y1 : Int32) (y2 : Int32) : Option (Int32 × zS) :=
  (zis S y0 y1 y2).bind fun S1 =>
  some ((1 : Int32), S1)
def fX8_maker_29 (N : Nat) (S : zS) (x0 : Nat) (x1 : Int32) (x2 : Int32) (x3 : Int32) : Option (Int32 × zS) :=
  (zgr S x0 8 28).bind fun v2 =>
  (zis S v2 x1 x2).bind fun S3 =>
  (zgr S3 x0 8 29).bind fun v4 =>
  if (0 : Int32) ≤ x2 then
    fX8_maker_50 N S3 v4 x1 x3
  else
    fX8_maker_50 N S3 v4 x1 (0 : Int32)
def fX8_maker_27 (N : Nat) (S : zS) : Option (Int32 × zS) :=
  some ((-1 : Int32), S)
def fX8_maker_0 (N : Nat) (S : zS) (x0 : Nat) (x1 : Int32) (x2 : Int32) (x3 : Int32) : Option (Int32 × zS) :=
  zb2 (fX8_isMaker N S x1) fun v6 S5 =>
  if v6 = (0 : Int32) then
    fX8_maker_27 N S5
  else
    if x2 = (-1 : Int32) then
      fX8_maker_29 N S5 x0 x1 x2 x3
    else
      zb2 (fX8_isMaker N S5 x2) fun v8 S7 =>
      if v8 = (0 : Int32) then
        fX8_maker_27 N S7
      else
        (zrc S7 x0 8).bind fun u9 =>
        zb2 (fX8_isText N S7 x0 x3) fun v11 S10 =>
        if v11 = (0 : Int32) then
          fX8_maker_27 N S10
        else
          fX8_maker_29 N S10 x0 x1 x2 x3
def fX8_maker (N : Nat) (S : zS) (x0 : Nat) (x1 : Int32) (x2 : Int32) (x3 : Int32) : Option (Int32 × zS) := fX8_maker_0 N S x0 x1 x2 x3
def fX8_downFrom_4 (N : Nat) (K4 : zS × Nat × Int32 × Int32 → Option (Int32 × zS)) (S : zS) (x0 : Nat) (x2 : Int32) (x3 : Int32) : Option (Int32 × zS) :=
  (zgr S x0 8 28).bind fun v1 =>
  (zil S v1 x3).bind fun v2 =>
  if v2 < (0 : Int32) then
    some (x2, S)
  else
    if x2 = (30 : Int32) then
      some ((-5 : Int32), S)
    else
      (zgr S x0 8 28).bind fun v3 =>
      (zil S v3 x3).bind fun v4 =>
      K4 (S, x0, (x2 + (1 : Int32)), v4)
def lX8_downFrom_4 (N : Nat)  (S : zS) (x0 : Nat) (x2 : Int32) (x3 : Int32) : Option (Int32 × zS) := zloop (fun K y => fX8_downFrom_4 N K y.1 y.2.1 y.2.2.1 y.2.2.2) N (S, x0, x2, x3)
def fX8_downFrom_0 (N : Nat) (S : zS) (x0 : Nat) (x1 : Int32) : Option (Int32 × zS) :=
  lX8_downFrom_4 N S x0 (0 : Int32) x1
def fX8_downFrom (N : Nat) (S : zS) (x0 : Nat) (x1 : Int32) : Option (Int32 × zS) := fX8_downFrom_0 N S x0 x1
def fX8_down_16 (N : Nat) (S : zS) (y0 : Int32) : Option (Int32 × zS) :=
  some (y0, S)
def fX8_down_0 (N : Nat) (S : zS) (x0 : Nat) (x1 : Int32) : Option (Int32 × zS) :=
  zb2 (fX8_isMaker N S x1) fun v2 S1 =>
  if v2 = (0 : Int32) then
    fX8_down_16 N S1 (-1 : Int32)
  else
    (zrc S1 x0 8).bind fun u3 =>
    zb2 (fX8_downFrom N S1 x0 x1) fun v5 S4 =>
    fX8_down_16 N S4 v5
def fX8_down (N : Nat) (S : zS) (x0 : Nat) (x1 : Int32) : Option (Int32 × zS) := fX8_down_0 N S x0 x1
def fX8_walk_89 (N : Nat) (S : zS) (y0 : Int32) : Option (Int32 × zS) :=
  some (y0, S)
def fX8_walk_70 (N : Nat) (S : zS) (x0 : Nat) (x2 : Int32) : Option (Int32 × zS) :=
  (zgr S x0 8 28).bind fun v1 =>
  (zil S v1 x2).bind fun v2 =>
  if (0 : Int32) ≤ v2 then
    (zgr S x0 8 28).bind fun v3 =>
    (zil S v3 x2).bind fun v4 =>
    fX8_walk_89 N S v4
  else
    fX8_walk_89 N S x2
def fX8_walk_30 (N : Nat) (K30 : zS × Nat × Int32 → Option (Int32 × zS)) (S : zS) (x0 : Nat) (x2 : Int32) : Option (Int32 × zS) :=
  (zgr S x0 8 28).bind fun v5 =>
  (zil S v5 x2).bind fun v6 =>
  if v6 < (0 : Int32) then
    fX8_walk_70 N S x0 x2
  else
    (zgr S x0 8 31).bind fun v7 =>
    (zgr S x0 8 28).bind fun v8 =>
    (zil S v8 x2).bind fun v9 =>
    (zzl S v7 v9).bind fun v10 =>
    if v10 = (0 : Int32) then
      (zgr S x0 8 28).bind fun v11 =>
      (zil S v11 x2).bind fun v12 =>
      (zgr S x0 8 31).bind fun v13 =>
      (zzs S v13 v12 (1 : Int32)).bind fun S14 =>
      K30 (S14, x0, v12)
    else
      fX8_walk_70 N S x0 x2
def lX8_walk_30 (N : Nat)  (S : zS) (x0 : Nat) (x2 : Int32) : Option (Int32 × zS) := zloop (fun K y => fX8_walk_30 N K y.1 y.2.1 y.2.2) N (S, x0, x2)
def fX8_walk_2 (N : Nat) (K2 : zS × Nat × Int32 × Int32 → Option (Int32 × zS)) (S : zS) (x0 : Nat) (x1 : Int32) (x2 : Int32) : Option (Int32 × zS) :=
  if (30 : Int32) ≤ x2 then
    (zgr S x0 8 31).bind fun v15 =>
    (zzs S v15 x1 (1 : Int32)).bind fun S16 =>
    lX8_walk_30 N S16 x0 x1
  else
    (zgr S x0 8 31).bind fun v17 =>
    (zzs S v17 x2 (0 : Int32)).bind fun S18 =>
    K2 (S18, x0, x1, (x2 + (1 : Int32)))
def lX8_walk_2 (N : Nat)  (S : zS) (x0 : Nat) (x1 : Int32) (x2 : Int32) : Option (Int32 × zS) := zloop (fun K y => fX8_walk_2 N K y.1 y.2.1 y.2.2.1 y.2.2.2) N (S, x0, x1, x2)
def fX8_walk_0 (N : Nat) (S : zS) (x0 : Nat) (x1 : Int32) : Option (Int32 × zS) :=
  lX8_walk_2 N S x0 x1 (0 : Int32)
def fX8_walk (N : Nat) (S : zS) (x0 : Nat) (x1 : Int32) : Option (Int32 × zS) := fX8_walk_0 N S x0 x1
def fX8_ring_40 (N : Nat) (K40 : zS × Nat × Int32 × Int32 × Int32 × Int32 → Option (Int32 × zS)) (S : zS) (x0 : Nat) (x2 : Int32) (x3 : Int32) (x4 : Int32) (x5 : Int32) : Option (Int32 × zS) :=
  if x2 ≤ x5 then
    some (x4, S)
  else
    (zgr S x0 8 28).bind fun v1 =>
    (zil S v1 x4).bind fun v2 =>
    if v2 = x3 then
      some ((-1 : Int32), S)
    else
      K40 (S, x0, x2, x3, v2, (x5 + (1 : Int32)))
def lX8_ring_40 (N : Nat)  (S : zS) (x0 : Nat) (x2 : Int32) (x3 : Int32) (x4 : Int32) (x5 : Int32) : Option (Int32 × zS) := zloop (fun K y => fX8_ring_40 N K y.1 y.2.1 y.2.2.1 y.2.2.2.1 y.2.2.2.2.1 y.2.2.2.2.2) N (S, x0, x2, x3, x4, x5)
def fX8_ring_0 (N : Nat) (S : zS) (x0 : Nat) (x1 : Int32) (x2 : Int32) : Option (Int32 × zS) :=
  zb2 (fX8_isMaker N S x1) fun v4 S3 =>
  if v4 = (0 : Int32) then
    some ((-1 : Int32), S3)
  else
    (zrc S3 x0 8).bind fun u5 =>
    zb2 (fX8_downFrom N S3 x0 x1) fun v7 S6 =>
    if v7 = (-5 : Int32) then
      (zrc S6 x0 8).bind fun u8 =>
      zb2 (fX8_walk N S6 x0 x1) fun v10 S9 =>
      if (0 : Int32) ≤ x2 then
        lX8_ring_40 N S9 x0 x2 v10 v10 (0 : Int32)
      else
        some ((-1 : Int32), S9)
    else
      some ((-2 : Int32), S6)
def fX8_ring (N : Nat) (S : zS) (x0 : Nat) (x1 : Int32) (x2 : Int32) : Option (Int32 × zS) := fX8_ring_0 N S x0 x1 x2
def fX8_needs_141 (N : Nat) (K103 : zS × Nat × Int32 × Int32 × Int32 → Option (Int32 × zS)) (S : zS) (x0 : Nat) (x2 : Int32) (x5 : Int32) (y0 : Int32) (y1 : Int32) : Option (Int32 × zS) :=
  K103 (S, x0, x2, (y0 + y1), (x5 + (1 : Int32)))
def fX8_needs_140 (N : Nat) (K103 : zS × Nat × Int32 × Int32 × Int32 → Option (Int32 × zS)) (S : zS) (x0 : Nat) (x2 : Int32) (x5 : Int32) (y0 : Int32) : Option (Int32 × zS) :=
  fX8_needs_141 N K103 S x0 x2 x5 y0 (0 : Int32)
def fX8_needs_136 (N : Nat) (K103 : zS × Nat × Int32 × Int32 × Int32 → Option (Int32 × zS)) (S : zS) (x0 : Nat) (x2 : Int32) (x5 : Int32) (y0 : Int32) : Option (Int32 × zS) :=
  fX8_needs_141 N K103 S x0 x2 x5 y0 (1 : Int32)
def fX8_needs_103 (N : Nat) (K103 : zS × Nat × Int32 × Int32 × Int32 → Option (Int32 × zS)) (S : zS) (x0 : Nat) (x2 : Int32) (x4 : Int32) (x5 : Int32) : Option (Int32 × zS) :=
  if (20 : Int32) ≤ x5 then
    some (x4, S)
  else
    (zgr S x0 8 32).bind fun v1 =>
    (zzl S v1 x5).bind fun v2 =>
    if v2 = (0 : Int32) then
      fX8_needs_140 N K103 S x0 x2 x5 x4
    else
      if x2 = (0 : Int32) then
        fX8_needs_136 N K103 S x0 x2 x5 x4
      else
        (zgr S x0 8 6).bind fun v3 =>
        (zzl S v3 x5).bind fun v4 =>
        if v4 = (0 : Int32) then
          fX8_needs_140 N K103 S x0 x2 x5 x4
        else
          fX8_needs_136 N K103 S x0 x2 x5 x4
def lX8_needs_103 (N : Nat)  (S : zS) (x0 : Nat) (x2 : Int32) (x4 : Int32) (x5 : Int32) : Option (Int32 × zS) := zloop (fun K y => fX8_needs_103 N K y.1 y.2.1 y.2.2.1 y.2.2.2.1 y.2.2.2.2) N (S, x0, x2, x4, x5)
def fX8_needs_91 (N : Nat) (K51 : zS × Nat × Int32 × Int32 → Option (Int32 × zS)) (S : zS) (x0 : Nat) (x2 : Int32) (x4 : Int32) : Option (Int32 × zS) :=
  K51 (S, x0, x2, (x4 + (1 : Int32)))
def fX8_needs_51 (N : Nat) (K51 : zS × Nat × Int32 × Int32 → Option (Int32 × zS)) (S : zS) (x0 : Nat) (x2 : Int32) (x4 : Int32) : Option (Int32 × zS) :=
  if (30 : Int32) ≤ x4 then
    lX8_needs_103 N S x0 x2 (0 : Int32) (0 : Int32)
  else
    (zgr S x0 8 31).bind fun v5 =>
    (zzl S v5 x4).bind fun v6 =>
    if v6 = (0 : Int32) then
      fX8_needs_91 N K51 S x0 x2 x4
    else
      (zgr S x0 8 28).bind fun v7 =>
      (zil S v7 x4).bind fun v8 =>
      if v8 < (0 : Int32) then
        fX8_needs_91 N K51 S x0 x2 x4
      else
        (zgr S x0 8 32).bind fun v9 =>
        (zgr S x0 8 29).bind fun v10 =>
        (zil S v10 x4).bind fun v11 =>
        (zzs S v9 v11 (1 : Int32)).bind fun S12 =>
        fX8_needs_91 N K51 S12 x0 x2 x4
def lX8_needs_51 (N : Nat)  (S : zS) (x0 : Nat) (x2 : Int32) (x4 : Int32) : Option (Int32 × zS) := zloop (fun K y => fX8_needs_51 N K y.1 y.2.1 y.2.2.1 y.2.2.2) N (S, x0, x2, x4)
def fX8_needs_27 (N : Nat) (K27 : zS × Nat × Int32 × Int32 → Option (Int32 × zS)) (S : zS) (x0 : Nat) (x2 : Int32) (x4 : Int32) : Option (Int32 × zS) :=
  if (20 : Int32) ≤ x4 then
    lX8_needs_51 N S x0 x2 (0 : Int32)
  else
    (zgr S x0 8 32).bind fun v13 =>
    (zzs S v13 x4 (0 : Int32)).bind fun S14 =>
    K27 (S14, x0, x2, (x4 + (1 : Int32)))
def lX8_needs_27 (N : Nat)  (S : zS) (x0 : Nat) (x2 : Int32) (x4 : Int32) : Option (Int32 × zS) := zloop (fun K y => fX8_needs_27 N K y.1 y.2.1 y.2.2.1 y.2.2.2) N (S, x0, x2, x4)
def fX8_needs_16 (N : Nat) (S : zS) : Option (Int32 × zS) :=
  some ((-1 : Int32), S)
def fX8_needs_0 (N : Nat) (S : zS) (x0 : Nat) (x1 : Int32) (x2 : Int32) : Option (Int32 × zS) :=
  zb2 (fX8_isMaker N S x1) fun v16 S15 =>
  if v16 = (0 : Int32) then
    fX8_needs_16 N S15
  else
    zb2 (fX8_in N S15 x2 (0 : Int32) (1 : Int32)) fun v18 S17 =>
    if v18 = (0 : Int32) then
      fX8_needs_16 N S17
    else
      (zrc S17 x0 8).bind fun u19 =>
      zb2 (fX8_walk N S17 x0 x1) fun v21 S20 =>
      lX8_needs_27 N S20 x0 x2 (0 : Int32)
def fX8_needs (N : Nat) (S : zS) (x0 : Nat) (x1 : Int32) (x2 : Int32) : Option (Int32 × zS) := fX8_needs_0 N S x0 x1 x2
def fX8_forge_48 (N : Nat) (S : zS) (x3 : Int32) (y0 : Nat) (y1 : Int32) (y2 : Int32) : Option (Int32 × zS) :=
  (zzs S y0 y1 y2).bind fun S1 =>
  some (x3, S1)
def fX8_forge_32 (N : Nat) (S : zS) (x0 : Nat) (x1 : Int32) (x2 : Int32) (y0 : Int32) : Option (Int32 × zS) :=
  (zgr S x0 8 30).bind fun v2 =>
  if x2 = (1 : Int32) then
    fX8_forge_48 N S y0 v2 x1 (1 : Int32)
  else
    fX8_forge_48 N S y0 v2 x1 (0 : Int32)
def fX8_forge_16 (N : Nat) (S : zS) : Option (Int32 × zS) :=
  some ((-1 : Int32), S)
def fX8_forge_0 (N : Nat) (S : zS) (x0 : Nat) (x1 : Int32) (x2 : Int32) : Option (Int32 × zS) :=
  zb2 (fX8_isMaker N S x1) fun v4 S3 =>
  if v4 = (0 : Int32) then
    fX8_forge_16 N S3
  else
    zb2 (fX8_in N S3 x2 (0 : Int32) (1 : Int32)) fun v6 S5 =>
    if v6 = (0 : Int32) then
      fX8_forge_16 N S5
    else
      (zgr S5 x0 8 30).bind fun v7 =>
      (zzl S5 v7 x1).bind fun v8 =>
      if v8 = (0 : Int32) then
        fX8_forge_32 N S5 x0 x1 x2 (0 : Int32)
      else
        fX8_forge_32 N S5 x0 x1 x2 (1 : Int32)
def fX8_forge (N : Nat) (S : zS) (x0 : Nat) (x1 : Int32) (x2 : Int32) : Option (Int32 × zS) := fX8_forge_0 N S x0 x1 x2
def fX8_trust_43 (N : Nat) (K17 : zS × Nat × Int32 → Option (Int32 × zS)) (S : zS) (x0 : Nat) (x3 : Int32) : Option (Int32 × zS) :=
  K17 (S, x0, (x3 + (1 : Int32)))
def fX8_trust_17 (N : Nat) (K17 : zS × Nat × Int32 → Option (Int32 × zS)) (S : zS) (x0 : Nat) (x3 : Int32) : Option (Int32 × zS) :=
  if (30 : Int32) ≤ x3 then
    some ((1 : Int32), S)
  else
    (zgr S x0 8 31).bind fun v1 =>
    (zzl S v1 x3).bind fun v2 =>
    if v2 = (0 : Int32) then
      fX8_trust_43 N K17 S x0 x3
    else
      (zgr S x0 8 30).bind fun v3 =>
      (zzl S v3 x3).bind fun v4 =>
      if v4 = (0 : Int32) then
        fX8_trust_43 N K17 S x0 x3
      else
        some ((0 : Int32), S)
def lX8_trust_17 (N : Nat)  (S : zS) (x0 : Nat) (x3 : Int32) : Option (Int32 × zS) := zloop (fun K y => fX8_trust_17 N K y.1 y.2.1 y.2.2) N (S, x0, x3)
def fX8_trust_0 (N : Nat) (S : zS) (x0 : Nat) (x1 : Int32) : Option (Int32 × zS) :=
  zb2 (fX8_isMaker N S x1) fun v6 S5 =>
  if v6 = (0 : Int32) then
    some ((-1 : Int32), S5)
  else
    (zrc S5 x0 8).bind fun u7 =>
    zb2 (fX8_walk N S5 x0 x1) fun v9 S8 =>
    lX8_trust_17 N S8 x0 (0 : Int32)
def fX8_trust (N : Nat) (S : zS) (x0 : Nat) (x1 : Int32) : Option (Int32 × zS) := fX8_trust_0 N S x0 x1
def fX8_heirs_46 (N : Nat) (K13 : zS × Nat × Int32 × Int32 × Int32 → Option (Int32 × zS)) (S : zS) (x0 : Nat) (x1 : Int32) (x3 : Int32) (y0 : Int32) (y1 : Int32) : Option (Int32 × zS) :=
  K13 (S, x0, x1, (y0 + y1), (x3 + (1 : Int32)))
def fX8_heirs_45 (N : Nat) (K13 : zS × Nat × Int32 × Int32 × Int32 → Option (Int32 × zS)) (S : zS) (x0 : Nat) (x1 : Int32) (x3 : Int32) (y0 : Int32) : Option (Int32 × zS) :=
  fX8_heirs_46 N K13 S x0 x1 x3 y0 (0 : Int32)
def fX8_heirs_13 (N : Nat) (K13 : zS × Nat × Int32 × Int32 × Int32 → Option (Int32 × zS)) (S : zS) (x0 : Nat) (x1 : Int32) (x2 : Int32) (x3 : Int32) : Option (Int32 × zS) :=
  if (30 : Int32) ≤ x3 then
    some (x2, S)
  else
    (zrc S x0 8).bind fun u1 =>
    zb2 (fX8_walk N S x0 x3) fun v3 S2 =>
    if x3 = x1 then
      fX8_heirs_45 N K13 S2 x0 x1 x3 x2
    else
      (zgr S2 x0 8 31).bind fun v4 =>
      (zzl S2 v4 x1).bind fun v5 =>
      if v5 = (0 : Int32) then
        fX8_heirs_45 N K13 S2 x0 x1 x3 x2
      else
        fX8_heirs_46 N K13 S2 x0 x1 x3 x2 (1 : Int32)
def lX8_heirs_13 (N : Nat)  (S : zS) (x0 : Nat) (x1 : Int32) (x2 : Int32) (x3 : Int32) : Option (Int32 × zS) := zloop (fun K y => fX8_heirs_13 N K y.1 y.2.1 y.2.2.1 y.2.2.2.1 y.2.2.2.2) N (S, x0, x1, x2, x3)
def fX8_heirs_0 (N : Nat) (S : zS) (x0 : Nat) (x1 : Int32) : Option (Int32 × zS) :=
  zb2 (fX8_isMaker N S x1) fun v7 S6 =>
  if v7 = (0 : Int32) then
    some ((-1 : Int32), S6)
  else
    lX8_heirs_13 N S6 x0 x1 (0 : Int32) (0 : Int32)
def fX8_heirs (N : Nat) (S : zS) (x0 : Nat) (x1 : Int32) : Option (Int32 × zS) := fX8_heirs_0 N S x0 x1
def fX8_count_146 (N : Nat) (K123 : zS × Nat × Int32 × Int32 → Option (Int32 × zS)) (S : zS) (x0 : Nat) (x3 : Int32) (y0 : Int32) (y1 : Int32) : Option (Int32 × zS) :=
  K123 (S, x0, (y0 + y1), (x3 + (1 : Int32)))
def fX8_count_123 (N : Nat) (K123 : zS × Nat × Int32 × Int32 → Option (Int32 × zS)) (S : zS) (x0 : Nat) (x2 : Int32) (x3 : Int32) : Option (Int32 × zS) :=
  (zgi S x0 8 3).bind fun v1 =>
  if v1 ≤ x3 then
    some (x2, S)
  else
    (zgr S x0 8 6).bind fun v2 =>
    (zzl S v2 x3).bind fun v3 =>
    if v3 = (0 : Int32) then
      fX8_count_146 N K123 S x0 x3 x2 (0 : Int32)
    else
      fX8_count_146 N K123 S x0 x3 x2 (1 : Int32)
def lX8_count_123 (N : Nat)  (S : zS) (x0 : Nat) (x2 : Int32) (x3 : Int32) : Option (Int32 × zS) := zloop (fun K y => fX8_count_123 N K y.1 y.2.1 y.2.2.1 y.2.2.2) N (S, x0, x2, x3)
def fX8_count_106 (N : Nat) (K85 : zS × Nat × Int32 × Int32 → Option (Int32 × zS)) (S : zS) (x0 : Nat) (x3 : Int32) (y0 : Int32) (y1 : Int32) : Option (Int32 × zS) :=
  K85 (S, x0, (y0 + y1), (x3 + (1 : Int32)))
def fX8_count_85 (N : Nat) (K85 : zS × Nat × Int32 × Int32 → Option (Int32 × zS)) (S : zS) (x0 : Nat) (x2 : Int32) (x3 : Int32) : Option (Int32 × zS) :=
  if (30 : Int32) ≤ x3 then
    some (x2, S)
  else
    (zgr S x0 8 30).bind fun v4 =>
    (zzl S v4 x3).bind fun v5 =>
    if v5 = (0 : Int32) then
      fX8_count_106 N K85 S x0 x3 x2 (0 : Int32)
    else
      fX8_count_106 N K85 S x0 x3 x2 (1 : Int32)
def lX8_count_85 (N : Nat)  (S : zS) (x0 : Nat) (x2 : Int32) (x3 : Int32) : Option (Int32 × zS) := zloop (fun K y => fX8_count_85 N K y.1 y.2.1 y.2.2.1 y.2.2.2) N (S, x0, x2, x3)
def fX8_count_73 (N : Nat) (K52 : zS × Nat × Int32 × Int32 → Option (Int32 × zS)) (S : zS) (x0 : Nat) (x3 : Int32) (y0 : Int32) (y1 : Int32) : Option (Int32 × zS) :=
  K52 (S, x0, (y0 + y1), (x3 + (1 : Int32)))
def fX8_count_52 (N : Nat) (K52 : zS × Nat × Int32 × Int32 → Option (Int32 × zS)) (S : zS) (x0 : Nat) (x2 : Int32) (x3 : Int32) : Option (Int32 × zS) :=
  if (30 : Int32) ≤ x3 then
    some (x2, S)
  else
    (zgr S x0 8 28).bind fun v6 =>
    (zil S v6 x3).bind fun v7 =>
    if (0 : Int32) ≤ v7 then
      fX8_count_73 N K52 S x0 x3 x2 (0 : Int32)
    else
      fX8_count_73 N K52 S x0 x3 x2 (1 : Int32)
def lX8_count_52 (N : Nat)  (S : zS) (x0 : Nat) (x2 : Int32) (x3 : Int32) : Option (Int32 × zS) := zloop (fun K y => fX8_count_52 N K y.1 y.2.1 y.2.2.1 y.2.2.2) N (S, x0, x2, x3)
def fX8_count_0 (N : Nat) (S : zS) (x0 : Nat) (x1 : Int32) : Option (Int32 × zS) :=
  if x1 = (0 : Int32) then
    (zgi S x0 8 3).bind fun v8 =>
    some (v8, S)
  else
  if x1 = (1 : Int32) then
    (zgi S x0 8 8).bind fun v9 =>
    some (v9, S)
  else
  if x1 = (2 : Int32) then
    lX8_count_52 N S x0 (0 : Int32) (0 : Int32)
  else
  if x1 = (3 : Int32) then
    lX8_count_85 N S x0 (0 : Int32) (0 : Int32)
  else
  if x1 = (4 : Int32) then
    (zgi S x0 8 2).bind fun v10 =>
    some (v10, S)
  else
  if x1 = (5 : Int32) then
    lX8_count_123 N S x0 (0 : Int32) (0 : Int32)
  else
  some ((-1 : Int32), S)
def fX8_count (N : Nat) (S : zS) (x0 : Nat) (x1 : Int32) : Option (Int32 × zS) := fX8_count_0 N S x0 x1
