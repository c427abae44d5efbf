theorem z_lcmp (x : Int64) : lg_cmp x x = 0 := by
  unfold lg_cmp
  simp
def LF0 (N MC MS bc bm : Nat) (a1 a2 a3 a4 : Int32) (Sc Sm : zS) (z : Nat) : Option (zS × zS × Nat) := (zrc Sc bc 7).bind fun _ => zb3 (rX7_feed N Sc z bc a1 a2) fun r Sc z1 => (zbud MC MS 0 0 (z1 - z) (200 * (z1 - z))).bind fun _ => (zrc Sm bm 8).bind fun _ => zb2 (fX8_feed N Sm bm a1 a2) fun r2 Sm => if r = r2 then some (Sc, Sm, z1) else none
def LF1 (N MC MS bc bm : Nat) (a1 a2 a3 a4 : Int32) (Sc Sm : zS) (z : Nat) : Option (zS × zS × Nat) := (zrc Sc bc 7).bind fun _ => zb3 (rX7_text N Sc z bc) fun r Sc z1 => (zbud MC MS 0 0 (z1 - z) (200 * (z1 - z))).bind fun _ => (zrc Sm bm 8).bind fun _ => zb2 (fX8_text N Sm bm) fun r2 Sm => if r = r2 then some (Sc, Sm, z1) else none
def LF2 (N MC MS bc bm : Nat) (a1 a2 a3 a4 : Int32) (Sc Sm : zS) (z : Nat) : Option (zS × zS × Nat) := (zrc Sc bc 7).bind fun _ => zb3 (rX7_write N Sc z bc a1) fun r Sc z1 => (zbud MC MS 0 0 (z1 - z) (200 * (z1 - z))).bind fun _ => (zrc Sm bm 8).bind fun _ => zb2 (fX8_write N Sm bm a1) fun r2 Sm => if r = r2 then some (Sc, Sm, z1) else none
def LF3 (N MC MS bc bm : Nat) (a1 a2 a3 a4 : Int32) (Sc Sm : zS) (z : Nat) : Option (zS × zS × Nat) := (zrc Sc bc 7).bind fun _ => zb2 (rX7_lack N Sc bc a1 a2) fun r Sc => (zrc Sm bm 8).bind fun _ => zb2 (fX8_lack N Sm bm a1 a2) fun r2 Sm => if r = r2 then some (Sc, Sm, z) else none
def LF4 (N MC MS bc bm : Nat) (a1 a2 a3 a4 : Int32) (Sc Sm : zS) (z : Nat) : Option (zS × zS × Nat) := (zrc Sc bc 7).bind fun _ => zb2 (rX7_word N Sc bc a1 a2 a3) fun r Sc => (zrc Sm bm 8).bind fun _ => zb2 (fX8_word N Sm bm a1 a2 a3) fun r2 Sm => if r = r2 then some (Sc, Sm, z) else none
def LF5 (N MC MS bc bm : Nat) (a1 a2 a3 a4 : Int32) (Sc Sm : zS) (z : Nat) : Option (zS × zS × Nat) := (zrc Sc bc 7).bind fun _ => zb2 (rX7_copy N Sc bc a1 a2) fun r Sc => (zrc Sm bm 8).bind fun _ => zb2 (fX8_copy N Sm bm a1 a2) fun r2 Sm => if r = r2 then some (Sc, Sm, z) else none
def LF6 (N MC MS bc bm : Nat) (a1 a2 a3 a4 : Int32) (Sc Sm : zS) (z : Nat) : Option (zS × zS × Nat) := (zrc Sc bc 7).bind fun _ => zb2 (rX7_step N Sc bc a1 a2 a3) fun r Sc => (zrc Sm bm 8).bind fun _ => zb2 (fX8_step N Sm bm a1 a2 a3) fun r2 Sm => if r = r2 then some (Sc, Sm, z) else none
def LF7 (N MC MS bc bm : Nat) (a1 a2 a3 a4 : Int32) (Sc Sm : zS) (z : Nat) : Option (zS × zS × Nat) := (zrc Sc bc 7).bind fun _ => zb2 (rX7_need N Sc bc a1 a2) fun r Sc => (zrc Sm bm 8).bind fun _ => zb2 (fX8_need N Sm bm a1 a2) fun r2 Sm => if r = r2 then some (Sc, Sm, z) else none
def LF8 (N MC MS bc bm : Nat) (a1 a2 a3 a4 : Int32) (Sc Sm : zS) (z : Nat) : Option (zS × zS × Nat) := (zrc Sc bc 7).bind fun _ => zb3 (rX7_made N Sc z bc a1 a2) fun r Sc z1 => (zbud MC MS 0 0 (z1 - z) (200 * (z1 - z))).bind fun _ => (zrc Sm bm 8).bind fun _ => zb2 (fX8_made N Sm bm a1 a2) fun r2 Sm => if r = r2 then some (Sc, Sm, z1) else none
def LF9 (N MC MS bc bm : Nat) (a1 a2 a3 a4 : Int32) (Sc Sm : zS) (z : Nat) : Option (zS × zS × Nat) := (zrc Sc bc 7).bind fun _ => zb3 (rX7_at N Sc z bc a1 a2 a3) fun r Sc z1 => (zbud MC MS 0 0 (z1 - z) (200 * (z1 - z))).bind fun _ => (zrc Sm bm 8).bind fun _ => zb2 (fX8_at N Sm bm a1 a2 a3) fun r2 Sm => if r = r2 then some (Sc, Sm, z1) else none
def LF10 (N MC MS bc bm : Nat) (a1 a2 a3 a4 : Int32) (Sc Sm : zS) (z : Nat) : Option (zS × zS × Nat) := (zrc Sc bc 7).bind fun _ => zb3 (rX7_reads N Sc z bc a1 a2 a3) fun r Sc z1 => (zbud MC MS 0 0 (z1 - z) (200 * (z1 - z))).bind fun _ => (zrc Sm bm 8).bind fun _ => zb2 (fX8_reads N Sm bm a1 a2 a3) fun r2 Sm => if r = r2 then some (Sc, Sm, z1) else none
def LF11 (N MC MS bc bm : Nat) (a1 a2 a3 a4 : Int32) (Sc Sm : zS) (z : Nat) : Option (zS × zS × Nat) := (zrc Sc bc 7).bind fun _ => zb2 (rX7_uses N Sc bc a1 a2) fun r Sc => (zrc Sm bm 8).bind fun _ => zb2 (fX8_uses N Sm bm a1 a2) fun r2 Sm => if r = r2 then some (Sc, Sm, z) else none
def LF12 (N MC MS bc bm : Nat) (a1 a2 a3 a4 : Int32) (Sc Sm : zS) (z : Nat) : Option (zS × zS × Nat) := (zrc Sc bc 7).bind fun _ => zb3 (rX7_orders N MC MS Sc z 0 0 bc a1) fun r Sc z => (zrc Sm bm 8).bind fun _ => zb2 (fX8_orders N Sm bm a1) fun r2 Sm => if r = r2 then some (Sc, Sm, z) else none
def LF13 (N MC MS bc bm : Nat) (a1 a2 a3 a4 : Int32) (Sc Sm : zS) (z : Nat) : Option (zS × zS × Nat) := (zrc Sc bc 7).bind fun _ => zb3 (rX7_built N Sc z bc a1) fun r Sc z1 => (zbud MC MS 0 0 (z1 - z) (200 * (z1 - z))).bind fun _ => (zrc Sm bm 8).bind fun _ => zb2 (fX8_built N Sm bm a1) fun r2 Sm => if r = r2 then some (Sc, Sm, z1) else none
def LF14 (N MC MS bc bm : Nat) (a1 a2 a3 a4 : Int32) (Sc Sm : zS) (z : Nat) : Option (zS × zS × Nat) := (zrc Sc bc 7).bind fun _ => zb3 (rX7_alike N Sc z bc a1 a2 a3) fun r Sc z1 => (zbud MC MS 0 0 (z1 - z) (200 * (z1 - z))).bind fun _ => (zrc Sm bm 8).bind fun _ => zb2 (fX8_alike N Sm bm a1 a2 a3) fun r2 Sm => if r = r2 then some (Sc, Sm, z1) else none
def LF15 (N MC MS bc bm : Nat) (a1 a2 a3 a4 : Int32) (Sc Sm : zS) (z : Nat) : Option (zS × zS × Nat) := (zrc Sc bc 7).bind fun _ => zb3 (rX7_changes N Sc z bc a1 a2 a3) fun r Sc z1 => (zbud MC MS 0 0 (z1 - z) (200 * (z1 - z))).bind fun _ => (zrc Sm bm 8).bind fun _ => zb2 (fX8_changes N Sm bm a1 a2 a3) fun r2 Sm => if r = r2 then some (Sc, Sm, z1) else none
def LF16 (N MC MS bc bm : Nat) (a1 a2 a3 a4 : Int32) (Sc Sm : zS) (z : Nat) : Option (zS × zS × Nat) := (zrc Sc bc 7).bind fun _ => zb2 (rX7_change N Sc bc a1 a2) fun r Sc => (zrc Sm bm 8).bind fun _ => zb2 (fX8_change N Sm bm a1 a2) fun r2 Sm => if r = r2 then some (Sc, Sm, z) else none
def LF17 (N MC MS bc bm : Nat) (a1 a2 a3 a4 : Int32) (Sc Sm : zS) (z : Nat) : Option (zS × zS × Nat) := (zrc Sc bc 7).bind fun _ => zb3 (rX7_cause N Sc z bc a1 a2 a3) fun r Sc z1 => (zbud MC MS 0 0 (z1 - z) (200 * (z1 - z))).bind fun _ => (zrc Sm bm 8).bind fun _ => zb2 (fX8_cause N Sm bm a1 a2 a3) fun r2 Sm => if r = r2 then some (Sc, Sm, z1) else none
def LF18 (N MC MS bc bm : Nat) (a1 a2 a3 a4 : Int32) (Sc Sm : zS) (z : Nat) : Option (zS × zS × Nat) := (zrc Sc bc 7).bind fun _ => zb3 (rX7_fix N Sc z bc a1 a2 a3) fun r Sc z1 => (zbud MC MS 0 0 (z1 - z) (200 * (z1 - z))).bind fun _ => (zrc Sm bm 8).bind fun _ => zb2 (fX8_fix N Sm bm a1 a2 a3) fun r2 Sm => if r = r2 then some (Sc, Sm, z1) else none
def LF19 (N MC MS bc bm : Nat) (a1 a2 a3 a4 : Int32) (Sc Sm : zS) (z : Nat) : Option (zS × zS × Nat) := (zrc Sc bc 7).bind fun _ => zb3 (rX7_stable N Sc z bc a1 a2 a3 a4) fun r Sc z1 => (zbud MC MS 0 0 (z1 - z) (200 * (z1 - z))).bind fun _ => (zrc Sm bm 8).bind fun _ => zb2 (fX8_stable N Sm bm a1 a2 a3 a4) fun r2 Sm => if r = r2 then some (Sc, Sm, z1) else none
def LF20 (N MC MS bc bm : Nat) (a1 a2 a3 a4 : Int32) (Sc Sm : zS) (z : Nat) : Option (zS × zS × Nat) := (zrc Sc bc 7).bind fun _ => zb3 (rX7_breaks N Sc z bc a1 a2 a3) fun r Sc z1 => (zbud MC MS 0 0 (z1 - z) (200 * (z1 - z))).bind fun _ => (zrc Sm bm 8).bind fun _ => zb2 (fX8_breaks N Sm bm a1 a2 a3) fun r2 Sm => if r = r2 then some (Sc, Sm, z1) else none
def LF21 (N MC MS bc bm : Nat) (a1 a2 a3 a4 : Int32) (Sc Sm : zS) (z : Nat) : Option (zS × zS × Nat) := (zrc Sc bc 7).bind fun _ => zb3 (rX7_rooms N Sc z bc a1 a2) fun r Sc z1 => (zbud MC MS 0 0 (z1 - z) (200 * (z1 - z))).bind fun _ => (zrc Sm bm 8).bind fun _ => zb2 (fX8_rooms N Sm bm a1 a2) fun r2 Sm => if r = r2 then some (Sc, Sm, z1) else none
def LF22 (N MC MS bc bm : Nat) (a1 a2 a3 a4 : Int32) (Sc Sm : zS) (z : Nat) : Option (zS × zS × Nat) := (zrc Sc bc 7).bind fun _ => zb2 (rX7_maker N Sc bc a1 a2 a3) fun r Sc => (zrc Sm bm 8).bind fun _ => zb2 (fX8_maker N Sm bm a1 a2 a3) fun r2 Sm => if r = r2 then some (Sc, Sm, z) else none
def LF23 (N MC MS bc bm : Nat) (a1 a2 a3 a4 : Int32) (Sc Sm : zS) (z : Nat) : Option (zS × zS × Nat) := (zrc Sc bc 7).bind fun _ => zb2 (rX7_down N Sc bc a1) fun r Sc => (zrc Sm bm 8).bind fun _ => zb2 (fX8_down N Sm bm a1) fun r2 Sm => if r = r2 then some (Sc, Sm, z) else none
def LF24 (N MC MS bc bm : Nat) (a1 a2 a3 a4 : Int32) (Sc Sm : zS) (z : Nat) : Option (zS × zS × Nat) := (zrc Sc bc 7).bind fun _ => zb2 (rX7_ring N Sc bc a1 a2) fun r Sc => (zrc Sm bm 8).bind fun _ => zb2 (fX8_ring N Sm bm a1 a2) fun r2 Sm => if r = r2 then some (Sc, Sm, z) else none
def LF25 (N MC MS bc bm : Nat) (a1 a2 a3 a4 : Int32) (Sc Sm : zS) (z : Nat) : Option (zS × zS × Nat) := (zrc Sc bc 7).bind fun _ => zb2 (rX7_needs N Sc bc a1 a2) fun r Sc => (zrc Sm bm 8).bind fun _ => zb2 (fX8_needs N Sm bm a1 a2) fun r2 Sm => if r = r2 then some (Sc, Sm, z) else none
def LF26 (N MC MS bc bm : Nat) (a1 a2 a3 a4 : Int32) (Sc Sm : zS) (z : Nat) : Option (zS × zS × Nat) := (zrc Sc bc 7).bind fun _ => zb2 (rX7_forge N Sc bc a1 a2) fun r Sc => (zrc Sm bm 8).bind fun _ => zb2 (fX8_forge N Sm bm a1 a2) fun r2 Sm => if r = r2 then some (Sc, Sm, z) else none
def LF27 (N MC MS bc bm : Nat) (a1 a2 a3 a4 : Int32) (Sc Sm : zS) (z : Nat) : Option (zS × zS × Nat) := (zrc Sc bc 7).bind fun _ => zb2 (rX7_trust N Sc bc a1) fun r Sc => (zrc Sm bm 8).bind fun _ => zb2 (fX8_trust N Sm bm a1) fun r2 Sm => if r = r2 then some (Sc, Sm, z) else none
def LF28 (N MC MS bc bm : Nat) (a1 a2 a3 a4 : Int32) (Sc Sm : zS) (z : Nat) : Option (zS × zS × Nat) := (zrc Sc bc 7).bind fun _ => zb2 (rX7_heirs N Sc bc a1) fun r Sc => (zrc Sm bm 8).bind fun _ => zb2 (fX8_heirs N Sm bm a1) fun r2 Sm => if r = r2 then some (Sc, Sm, z) else none
def LF29 (N MC MS bc bm : Nat) (a1 a2 a3 a4 : Int32) (Sc Sm : zS) (z : Nat) : Option (zS × zS × Nat) := (zrc Sc bc 7).bind fun _ => zb2 (rX7_count N Sc bc a1) fun r Sc => (zrc Sm bm 8).bind fun _ => zb2 (fX8_count N Sm bm a1) fun r2 Sm => if r = r2 then some (Sc, Sm, z) else none
def LF (N MC MS bc bm : Nat) (o a1 a2 a3 a4 : Int32) (Sc Sm : zS) (z : Nat) : Option (zS × zS × Nat) :=
  if o = (0 : Int32) then LF0 N MC MS bc bm a1 a2 a3 a4 Sc Sm z else
  if o = (1 : Int32) then LF1 N MC MS bc bm a1 a2 a3 a4 Sc Sm z else
  if o = (2 : Int32) then LF2 N MC MS bc bm a1 a2 a3 a4 Sc Sm z else
  if o = (3 : Int32) then LF3 N MC MS bc bm a1 a2 a3 a4 Sc Sm z else
  if o = (4 : Int32) then LF4 N MC MS bc bm a1 a2 a3 a4 Sc Sm z else
  if o = (5 : Int32) then LF5 N MC MS bc bm a1 a2 a3 a4 Sc Sm z else
  if o = (6 : Int32) then LF6 N MC MS bc bm a1 a2 a3 a4 Sc Sm z else
  if o = (7 : Int32) then LF7 N MC MS bc bm a1 a2 a3 a4 Sc Sm z else
  if o = (8 : Int32) then LF8 N MC MS bc bm a1 a2 a3 a4 Sc Sm z else
  if o = (9 : Int32) then LF9 N MC MS bc bm a1 a2 a3 a4 Sc Sm z else
  if o = (10 : Int32) then LF10 N MC MS bc bm a1 a2 a3 a4 Sc Sm z else
  if o = (11 : Int32) then LF11 N MC MS bc bm a1 a2 a3 a4 Sc Sm z else
  if o = (12 : Int32) then LF12 N MC MS bc bm a1 a2 a3 a4 Sc Sm z else
  if o = (13 : Int32) then LF13 N MC MS bc bm a1 a2 a3 a4 Sc Sm z else
  if o = (14 : Int32) then LF14 N MC MS bc bm a1 a2 a3 a4 Sc Sm z else
  if o = (15 : Int32) then LF15 N MC MS bc bm a1 a2 a3 a4 Sc Sm z else
  if o = (16 : Int32) then LF16 N MC MS bc bm a1 a2 a3 a4 Sc Sm z else
  if o = (17 : Int32) then LF17 N MC MS bc bm a1 a2 a3 a4 Sc Sm z else
  if o = (18 : Int32) then LF18 N MC MS bc bm a1 a2 a3 a4 Sc Sm z else
  if o = (19 : Int32) then LF19 N MC MS bc bm a1 a2 a3 a4 Sc Sm z else
  if o = (20 : Int32) then LF20 N MC MS bc bm a1 a2 a3 a4 Sc Sm z else
  if o = (21 : Int32) then LF21 N MC MS bc bm a1 a2 a3 a4 Sc Sm z else
  if o = (22 : Int32) then LF22 N MC MS bc bm a1 a2 a3 a4 Sc Sm z else
  if o = (23 : Int32) then LF23 N MC MS bc bm a1 a2 a3 a4 Sc Sm z else
  if o = (24 : Int32) then LF24 N MC MS bc bm a1 a2 a3 a4 Sc Sm z else
  if o = (25 : Int32) then LF25 N MC MS bc bm a1 a2 a3 a4 Sc Sm z else
  if o = (26 : Int32) then LF26 N MC MS bc bm a1 a2 a3 a4 Sc Sm z else
  if o = (27 : Int32) then LF27 N MC MS bc bm a1 a2 a3 a4 Sc Sm z else
  if o = (28 : Int32) then LF28 N MC MS bc bm a1 a2 a3 a4 Sc Sm z else
  if o = (29 : Int32) then LF29 N MC MS bc bm a1 a2 a3 a4 Sc Sm z else
  some (Sc, Sm, z)
def LR (N bc bm : Nat) (xs : Nat → Int32) : Nat → Nat → zS → zS → Nat → Nat → Nat → Prop
  | 0, _, _, _, _, _, _ => True
  | n + 1, i, Sc, Sm, z, q, w => ∃ (MC MS : Nat) (Sc' Sm' : zS) (z' : Nat), LF N MC MS bc bm (xs i &&& 31) (xs (i + 1)) (xs (i + 2)) (xs (i + 3)) (xs (i + 4)) Sc Sm z = some (Sc', Sm', z') ∧ q + MC ≤ 600000 ∧ w + MS ≤ 7302250 ∧ LR N bc bm xs n (i + 5) Sc' Sm' z' (q + MC) (w + MS)
/-- what stays while the law runs: machine, script, two parts of the heap -/
def zL (D : va_G) (cy : Nat → ClassId) (Ac Am : Nat → Prop) (p : Program) (s : State) (m : MethodId) (meth : Method) (c : Code) (b L : Nat) (xs : Nat → Int32) : Prop :=
  zX D cy p s m meth c cL_law 4 RL ret ∧ va_X b L xs s s.heap ∧ b < s.heap.size ∧ (∀ q, Ac q → s.heap.size ≤ q) ∧ (∀ q, Am q → s.heap.size ≤ q) ∧ (∀ q, Ac q → ¬ Am q) ∧ L ≤ 2560
/-- what holds between two calls -/
def zI (D : va_G) (cy : Nat → ClassId) (Ac Am : Nat → Prop) (s : State) (Sc Sm : zS) (z : Nat) (H : Heap) (locs : List Loc) : Prop :=
  zH D cy Ac Sc H ∧ zH D cy Am Sm H ∧ zV (fun q : Nat => s.heap.size ≤ q) z s.heap H locs ∧ ∀ q, z ≤ q → Ac q
section ZLAW
variable {D : va_G} {cy : Nat → ClassId} {A A1 A2 Ac Am : Nat → Prop} {p : Program} {l : Launch} {e : Env} {R : Room} {s : State} {m : MethodId} {args : Array Value} {below : List Frame} {meth : Method} {c : Code} {b L : Nat} {xs : Nat → Int32} {H : Heap} {locs : List Loc} {cells slots : Nat} {Q : State → Prop} {pc : Nat} {ls : Array Slot} {rest : List Value} {cc : ByteArray} {nL : Nat} {own : String} {rt : Option FieldType} {S So : zS} {z : Nat}
theorem zH.other (h : zH D cy A2 So H) {H1 : Heap} (hd : ∀ q, A2 q → ¬ A1 q) (hk : ∀ q : Nat, q < H.size → ¬ A1 q → H1[q]? = H[q]?) : zH D cy A2 So H1 := fun a c n ha => by
  obtain ⟨h1, h2⟩ := h a c n ha
  exact ⟨h1, h2.kept (hk a h2.lt (hd a h1))⟩
theorem z_run2 {mc ms : Nat} {z2 : Nat} {S2 : zS} {o : Option Value} {av : Array Value} {st0 : List Value} (hS0 : zV A z s.heap H locs) (hA : ∀ q, A1 q → A q) (hd : ∀ q, A2 q → ¬ A1 q) (hH2 : zH D cy A2 So H) (hr : va_Run p l e R s m args below meth c H locs cells slots mc ms (F0 m pc ls st0) rest (zQ D cy A1 S2 z2 o av) A1)
    (kk : ∀ (H1 : Heap) (locs1 : List Loc), zH D cy A1 S2 H1 → zH D cy A2 So H1 → zV A z2 s.heap H1 locs1 → z ≤ z2 → W p l e R s m args below meth c H1 locs1 (cells + mc) (slots + ms) Q (F0 m (pc + 3) ls (o.toList ++ rest))) : W p l e R s m args below meth c H locs cells slots Q (F0 m pc ls st0) := by
  intro T hT X
  obtain ⟨v, st₀, t, T', L, h0, X', hL, e1, e2, ⟨hv, hz, hh, -, hF⟩, st⟩ := hr T hT X
  cases hv
  obtain ⟨hz1, hk1⟩ := hF
  rw [h0] at hz1 hk1
  obtain ⟨hS, hz0⟩ := hS0
  obtain ⟨t2, a1, b1⟩ := kk T'.heap (locs ++ L) (by rw [e1]; exact hh) (by rw [e1]; exact hH2.other hd hk1) ⟨⟨Nat.le_trans hS.1 (by rw [e1]; exact hz1), fun q h1 h2 => by rw [e1, hk1 q (Nat.lt_of_lt_of_le h1 hS.1) (fun x => h2 (hA q x))]; exact hS.2.1 q h1 h2, fun q hq => by
      rcases List.mem_append.mp hq with h | h
      · exact hS.2.2 q h
      · exact hA _ (hL q h)⟩, by rw [e1]; exact hz⟩ (by rw [← hz0, ← hz]; exact hz1) T' rfl X'
  exact ⟨t2, st t2 a1, b1⟩
variable {y : MethodName} {bytes : ByteArray} {maxL n idx : Nat} {ret' : Option FieldType} {rm : Room} {mc ms : Nat} {As st0 : List Value} {S2 : zS} {z2 : Nat} {o : Option Value} {lv : List (Nat × Value)} {a : Nat}
theorem z_cV2 (X : zX D cy p s m meth c cc nL own rt) (hl : lv_has ls nL lv) (hH : zH D cy A1 S H) (hH2 : zH D cy A2 So H) (hS0 : zV A z s.heap H locs) (hA : ∀ q, A1 q → A q) (hd : ∀ q, A2 q → ¬ A1 q) {ci : Nat} (mv : zMV own idx y bytes maxL ret' n ci) {u : Unit} (hrc : zrc S a ci = some u) (hM : Met l y [.code y bytes maxL ret'] rm (zP D cy A1 S z (.ref a :: As)) (zQ D cy A1 S2 z2 o) mc ms A1)
    (hn : As.length = n) (hstack : st0 = As.reverse ++ .ref a :: rest) (hW : (rest.map fun v => v.category).sum ≤ 8) (hR : rm.cells = mc ∧ rm.slots = ms ∧ rm.frames + 1 ≤ R.frames ∧ 8 + (maxL + 11) + rm.locals ≤ R.locals) (hf : cells + mc ≤ R.cells ∧ slots + ms ≤ R.slots) (hdg : decode cc pc = .ok (.invokevirtual idx, 3))
    (kk : ∀ (H1 : Heap) (locs1 : List Loc), zH D cy A1 S2 H1 → zH D cy A2 So H1 → zV A z2 s.heap H1 locs1 → z ≤ z2 → W p l e R s m args below meth c H1 locs1 (cells + mc) (slots + ms) Q (F0 m (pc + 3) ls (o.toList ++ rest))) : W p l e R s m args below meth c H locs cells slots Q (F0 m pc ls st0) := by
  obtain ⟨hml, hin, hse, hci, hc9⟩ := mv
  have hk : zK s := X.2.2.2.2.2.2.1
  unfold zrc at hrc
  split at hrc
  · next h =>
    obtain ⟨n5, hk5⟩ := zkd h
    obtain ⟨q, hq, hqy⟩ : ∃ q, vwCl[ci]? = some q ∧ q.1 = y.cls := by
      cases hv : vwCl[ci]? with
      | none => rw [hv] at hci; cases hci
      | some q => rw [hv] at hci; exact ⟨q, rfl, Option.some.inj hci⟩
    obtain ⟨q', h1, cell, g1, g2, g3, -⟩ := (hH.obj hk5 hc9) 0 _ rfl
    have hcell : ∃ cellB : Cell, H[a]? = some cellB ∧ cellB.vm.isStatics = false ∧ s.vm.findClass y.cls = some cellB.cls := ⟨cell, g1, by rw [g3]; rfl, by rw [g2, ← hqy]; exact (X.2.2.2.2.2.2.2.2.1 ci q hq).2.1⟩
    exact z_run2 hS0 hA hd hH2 (va_runV (C := y.cls) (As := As) (rest := rest) (b := a) (Ts := ztb) (nL := nL) ⟨X.1, X.2.1, X.2.2.1, X.2.2.2.1, X.ts⟩ hM ⟨hml.callB hk hR.1 hR.2.1 hR.2.2, hk.at hin, hk.at hse⟩ ⟨zP.blind, hcell, fun U hU hW => ⟨rfl, by rw [hU]; exact hS0.2, by rw [hU]; exact hH, zT.warm hW X.2.2.2.2.2.2⟩⟩ rfl hn hl.1 hstack (lv_room hW) hdg hf) kk
  · cases hrc
/-- an int of the script -/
theorem z_sld (C : zL D cy Ac Am p s m meth c b L xs) (hS0 : zV (fun q : Nat => s.heap.size ≤ q) z s.heap H locs) {x : Int32} {j : Nat} (hx : x = nI j) (hj : j < L) (hdg : decode cL_law pc = .ok (.iaload, 1))
    (kk : W p l e R s m args below meth c H locs cells slots Q (F0 m (pc + 1) ls (.int (xs j) :: rest))) : W p l e R s m args below meth c H locs cells slots Q (F0 m pc ls (.int x :: .ref b :: rest)) := by
  have hL := C.2.2.2.2.2.2
  have hi : vp_in x L := by rw [hx]; exact vp_in_nI hj (by omega)
  have hn : x.toNatClampNeg = j := by rw [hx]; exact nI_clamp (by omega)
  refine va_sld C.1.1 C.1.2.1 C.2.1 C.2.2.1 (Nat.not_le.mpr C.2.2.1) hS0.1 hi hdg ?_
  rw [hn]
  exact kk
set_option maxRecDepth 100000 in
set_option maxHeartbeats 4000000 in
theorem wL_0 (C : zL D cy Ac Am p s m meth c b L xs) {N MC MS bc bm i : Nat} {Sc Sm Sc' Sm' : zS} {z z' q w : Nat} {H : Heap} {locs : List Loc} {ls : Array Slot} {x3 : Int32} (hx3 : x3 = nI i) (hi : i + 4 < L) (hq : q + MC ≤ 600000) (hw : w + MS ≤ 7302250) (hI : zI D cy Ac Am s Sc Sm z H locs) (hl : lv_has ls 4 [(0, .ref b), (1, .ref bc), (2, .ref bm), (3, .int x3)]) (h : LF0 N MC MS bc bm (xs (i + 1)) (xs (i + 2)) (xs (i + 3)) (xs (i + 4)) Sc Sm z = some (Sc', Sm', z')) (kk : ∀ (H : Heap) (locs : List Loc) (ls : Array Slot), zI D cy Ac Am s Sc' Sm' z' H locs → lv_has ls 4 [(0, .ref b), (1, .ref bc), (2, .ref bm), (3, .int x3)] → W p l e room_1 s m #[Value.ref b] below meth c H locs (q + MC) (w + MS) Q (F0 m 1189 ls [])) : W p l e room_1 s m #[Value.ref b] below meth c H locs q w Q (F0 m 168 ls []) := by
  obtain ⟨hx, hb, hml, hown, hr, hlocks, hT⟩ := id C.1
  obtain ⟨hH1, hH2, hS, hAz⟩ := hI
  have hdis := C.2.2.2.2.2.1
  unfold LF0 at h
  obtain ⟨u1, eu1, h⟩ := zb_some h
  obtain ⟨r, S1, z1, e1, h⟩ := zb3_some h
  obtain ⟨u3, eu3, h⟩ := zb_some h
  have hbz := zbud_at eu3
  obtain ⟨u2, eu2, h⟩ := zb_some h
  obtain ⟨r2, S2, e2, h⟩ := zb2_some h
  split at h
  · next hr2 =>
    cases h
    refine lv_aload_n hx hb dL_law_168 rfl (lv_at hl 1 rfl) ?_
    refine lv_aload_n hx hb dL_law_169 rfl (lv_at hl 0 rfl) ?_
    refine lv_iload_n hx hb dL_law_170 rfl (lv_at hl 3 rfl) ?_
    refine lv_iconst (v := (1 : Int32)) hx hb dL_law_171 (by decide) ?_
    refine lv_iadd hx hb dL_law_172 ?_
    refine z_sld C hS (j := i + 1) (by rw [hx3]; exact nI_add i 1) (by omega) dL_law_173 ?_
    refine lv_aload_n hx hb dL_law_174 rfl (lv_at hl 0 rfl) ?_
    refine lv_iload_n hx hb dL_law_175 rfl (lv_at hl 3 rfl) ?_
    refine lv_iconst (v := (2 : Int32)) hx hb dL_law_176 (by decide) ?_
    refine lv_iadd hx hb dL_law_177 ?_
    refine z_sld C hS (j := i + 2) (by rw [hx3]; exact nI_add i 2) (by omega) dL_law_178 ?_
    refine z_cV2 (As := [.int (xs (i + 1)), .int (xs (i + 2))]) C.1 hl hH1 hH2 hS C.2.2.2.1 (fun q h1 h2 => hdis q h2 h1) mlL_13 eu1 (kX7_feed hAz e1) rfl rfl (Nat.le_of_ble_eq_true rfl) ⟨rfl, rfl, Nat.le_of_ble_eq_true rfl, Nat.le_of_ble_eq_true rfl⟩ ⟨by show q + (z' - z) ≤ 600000; omega, by show w + 200 * (z' - z) ≤ 7302250; omega⟩ dL_law_179 (fun H locs hH1 hH2 hS hzz => ?_)
    refine lv_aload_n hx hb dL_law_182 rfl (lv_at hl 2 rfl) ?_
    refine lv_aload_n hx hb dL_law_183 rfl (lv_at hl 0 rfl) ?_
    refine lv_iload_n hx hb dL_law_184 rfl (lv_at hl 3 rfl) ?_
    refine lv_iconst (v := (1 : Int32)) hx hb dL_law_185 (by decide) ?_
    refine lv_iadd hx hb dL_law_186 ?_
    refine z_sld C hS (j := i + 1) (by rw [hx3]; exact nI_add i 1) (by omega) dL_law_187 ?_
    refine lv_aload_n hx hb dL_law_188 rfl (lv_at hl 0 rfl) ?_
    refine lv_iload_n hx hb dL_law_189 rfl (lv_at hl 3 rfl) ?_
    refine lv_iconst (v := (2 : Int32)) hx hb dL_law_190 (by decide) ?_
    refine lv_iadd hx hb dL_law_191 ?_
    refine z_sld C hS (j := i + 2) (by rw [hx3]; exact nI_add i 2) (by omega) dL_law_192 ?_
    refine z_cV2 (As := [.int (xs (i + 1)), .int (xs (i + 2))]) C.1 hl hH2 hH1 hS C.2.2.2.2.1 hdis mlL_17 eu2 (kX8_feed e2) rfl rfl (Nat.le_of_ble_eq_true rfl) ⟨rfl, rfl, Nat.le_of_ble_eq_true rfl, Nat.le_of_ble_eq_true rfl⟩ ⟨by show q + (z' - z) + 0 ≤ 600000; omega, by show w + 200 * (z' - z) + 0 ≤ 7302250; omega⟩ dL_law_193 (fun H locs hH2 hH1 hS hzz2 => ?_)
    refine lv_icmp_eq (tgt := 1189) hx hb dL_law_196 (by decide) (fun _ => ?_) (fun c9 => absurd (hr2) c9)
    exact W.widen (show q + (z' - z) + 0 ≤ q + MC by omega) (show w + 200 * (z' - z) + 0 ≤ w + MS by omega) (kk _ _ _ ⟨hH1, hH2, hS, fun q h => hAz q (Nat.le_trans hzz h)⟩ hl)
  · cases h
set_option maxRecDepth 100000 in
set_option maxHeartbeats 4000000 in
theorem wL_1 (C : zL D cy Ac Am p s m meth c b L xs) {N MC MS bc bm i : Nat} {Sc Sm Sc' Sm' : zS} {z z' q w : Nat} {H : Heap} {locs : List Loc} {ls : Array Slot} {x3 : Int32} (hx3 : x3 = nI i) (hi : i + 4 < L) (hq : q + MC ≤ 600000) (hw : w + MS ≤ 7302250) (hI : zI D cy Ac Am s Sc Sm z H locs) (hl : lv_has ls 4 [(0, .ref b), (1, .ref bc), (2, .ref bm), (3, .int x3)]) (h : LF1 N MC MS bc bm (xs (i + 1)) (xs (i + 2)) (xs (i + 3)) (xs (i + 4)) Sc Sm z = some (Sc', Sm', z')) (kk : ∀ (H : Heap) (locs : List Loc) (ls : Array Slot), zI D cy Ac Am s Sc' Sm' z' H locs → lv_has ls 4 [(0, .ref b), (1, .ref bc), (2, .ref bm), (3, .int x3)] → W p l e room_1 s m #[Value.ref b] below meth c H locs (q + MC) (w + MS) Q (F0 m 1189 ls [])) : W p l e room_1 s m #[Value.ref b] below meth c H locs q w Q (F0 m 201 ls []) := by
  obtain ⟨hx, hb, hml, hown, hr, hlocks, hT⟩ := id C.1
  obtain ⟨hH1, hH2, hS, hAz⟩ := hI
  have hdis := C.2.2.2.2.2.1
  unfold LF1 at h
  obtain ⟨u1, eu1, h⟩ := zb_some h
  obtain ⟨r, S1, z1, e1, h⟩ := zb3_some h
  obtain ⟨u3, eu3, h⟩ := zb_some h
  have hbz := zbud_at eu3
  obtain ⟨u2, eu2, h⟩ := zb_some h
  obtain ⟨r2, S2, e2, h⟩ := zb2_some h
  split at h
  · next hr2 =>
    cases h
    refine lv_aload_n hx hb dL_law_201 rfl (lv_at hl 1 rfl) ?_
    refine z_cV2 (As := []) C.1 hl hH1 hH2 hS C.2.2.2.1 (fun q h1 h2 => hdis q h2 h1) mlL_18 eu1 (kX7_text hAz e1) rfl rfl (Nat.le_of_ble_eq_true rfl) ⟨rfl, rfl, Nat.le_of_ble_eq_true rfl, Nat.le_of_ble_eq_true rfl⟩ ⟨by show q + (z' - z) ≤ 600000; omega, by show w + 200 * (z' - z) ≤ 7302250; omega⟩ dL_law_202 (fun H locs hH1 hH2 hS hzz => ?_)
    refine lv_aload_n hx hb dL_law_205 rfl (lv_at hl 2 rfl) ?_
    refine z_cV2 (As := []) C.1 hl hH2 hH1 hS C.2.2.2.2.1 hdis mlL_22 eu2 (kX8_text e2) rfl rfl (Nat.le_of_ble_eq_true rfl) ⟨rfl, rfl, Nat.le_of_ble_eq_true rfl, Nat.le_of_ble_eq_true rfl⟩ ⟨by show q + (z' - z) + 0 ≤ 600000; omega, by show w + 200 * (z' - z) + 0 ≤ 7302250; omega⟩ dL_law_206 (fun H locs hH2 hH1 hS hzz2 => ?_)
    refine lv_icmp_eq (tgt := 1189) hx hb dL_law_209 (by decide) (fun _ => ?_) (fun c9 => absurd (hr2) c9)
    exact W.widen (show q + (z' - z) + 0 ≤ q + MC by omega) (show w + 200 * (z' - z) + 0 ≤ w + MS by omega) (kk _ _ _ ⟨hH1, hH2, hS, fun q h => hAz q (Nat.le_trans hzz h)⟩ hl)
  · cases h
set_option maxRecDepth 100000 in
set_option maxHeartbeats 4000000 in
theorem wL_2 (C : zL D cy Ac Am p s m meth c b L xs) {N MC MS bc bm i : Nat} {Sc Sm Sc' Sm' : zS} {z z' q w : Nat} {H : Heap} {locs : List Loc} {ls : Array Slot} {x3 : Int32} (hx3 : x3 = nI i) (hi : i + 4 < L) (hq : q + MC ≤ 600000) (hw : w + MS ≤ 7302250) (hI : zI D cy Ac Am s Sc Sm z H locs) (hl : lv_has ls 4 [(0, .ref b), (1, .ref bc), (2, .ref bm), (3, .int x3)]) (h : LF2 N MC MS bc bm (xs (i + 1)) (xs (i + 2)) (xs (i + 3)) (xs (i + 4)) Sc Sm z = some (Sc', Sm', z')) (kk : ∀ (H : Heap) (locs : List Loc) (ls : Array Slot), zI D cy Ac Am s Sc' Sm' z' H locs → lv_has ls 4 [(0, .ref b), (1, .ref bc), (2, .ref bm), (3, .int x3)] → W p l e room_1 s m #[Value.ref b] below meth c H locs (q + MC) (w + MS) Q (F0 m 1189 ls [])) : W p l e room_1 s m #[Value.ref b] below meth c H locs q w Q (F0 m 214 ls []) := by
  obtain ⟨hx, hb, hml, hown, hr, hlocks, hT⟩ := id C.1
  obtain ⟨hH1, hH2, hS, hAz⟩ := hI
  have hdis := C.2.2.2.2.2.1
  unfold LF2 at h
  obtain ⟨u1, eu1, h⟩ := zb_some h
  obtain ⟨r, S1, z1, e1, h⟩ := zb3_some h
  obtain ⟨u3, eu3, h⟩ := zb_some h
  have hbz := zbud_at eu3
  obtain ⟨u2, eu2, h⟩ := zb_some h
  obtain ⟨r2, S2, e2, h⟩ := zb2_some h
  split at h
  · next hr2 =>
    cases h
    refine lv_aload_n hx hb dL_law_214 rfl (lv_at hl 1 rfl) ?_
    refine lv_aload_n hx hb dL_law_215 rfl (lv_at hl 0 rfl) ?_
    refine lv_iload_n hx hb dL_law_216 rfl (lv_at hl 3 rfl) ?_
    refine lv_iconst (v := (1 : Int32)) hx hb dL_law_217 (by decide) ?_
    refine lv_iadd hx hb dL_law_218 ?_
    refine z_sld C hS (j := i + 1) (by rw [hx3]; exact nI_add i 1) (by omega) dL_law_219 ?_
    refine z_cV2 (As := [.int (xs (i + 1))]) C.1 hl hH1 hH2 hS C.2.2.2.1 (fun q h1 h2 => hdis q h2 h1) mlL_23 eu1 (kX7_write hAz e1) rfl rfl (Nat.le_of_ble_eq_true rfl) ⟨rfl, rfl, Nat.le_of_ble_eq_true rfl, Nat.le_of_ble_eq_true rfl⟩ ⟨by show q + (z' - z) ≤ 600000; omega, by show w + 200 * (z' - z) ≤ 7302250; omega⟩ dL_law_220 (fun H locs hH1 hH2 hS hzz => ?_)
    refine lv_aload_n hx hb dL_law_223 rfl (lv_at hl 2 rfl) ?_
    refine lv_aload_n hx hb dL_law_224 rfl (lv_at hl 0 rfl) ?_
    refine lv_iload_n hx hb dL_law_225 rfl (lv_at hl 3 rfl) ?_
    refine lv_iconst (v := (1 : Int32)) hx hb dL_law_226 (by decide) ?_
    refine lv_iadd hx hb dL_law_227 ?_
    refine z_sld C hS (j := i + 1) (by rw [hx3]; exact nI_add i 1) (by omega) dL_law_228 ?_
    refine z_cV2 (As := [.int (xs (i + 1))]) C.1 hl hH2 hH1 hS C.2.2.2.2.1 hdis mlL_27 eu2 (kX8_write e2) rfl rfl (Nat.le_of_ble_eq_true rfl) ⟨rfl, rfl, Nat.le_of_ble_eq_true rfl, Nat.le_of_ble_eq_true rfl⟩ ⟨by show q + (z' - z) + 0 ≤ 600000; omega, by show w + 200 * (z' - z) + 0 ≤ 7302250; omega⟩ dL_law_229 (fun H locs hH2 hH1 hS hzz2 => ?_)
    refine lv_icmp_eq (tgt := 1189) hx hb dL_law_232 (by decide) (fun _ => ?_) (fun c9 => absurd (hr2) c9)
    exact W.widen (show q + (z' - z) + 0 ≤ q + MC by omega) (show w + 200 * (z' - z) + 0 ≤ w + MS by omega) (kk _ _ _ ⟨hH1, hH2, hS, fun q h => hAz q (Nat.le_trans hzz h)⟩ hl)
  · cases h
set_option maxRecDepth 100000 in
set_option maxHeartbeats 4000000 in
theorem wL_3 (C : zL D cy Ac Am p s m meth c b L xs) {N MC MS bc bm i : Nat} {Sc Sm Sc' Sm' : zS} {z z' q w : Nat} {H : Heap} {locs : List Loc} {ls : Array Slot} {x3 : Int32} (hx3 : x3 = nI i) (hi : i + 4 < L) (hq : q + MC ≤ 600000) (hw : w + MS ≤ 7302250) (hI : zI D cy Ac Am s Sc Sm z H locs) (hl : lv_has ls 4 [(0, .ref b), (1, .ref bc), (2, .ref bm), (3, .int x3)]) (h : LF3 N MC MS bc bm (xs (i + 1)) (xs (i + 2)) (xs (i + 3)) (xs (i + 4)) Sc Sm z = some (Sc', Sm', z')) (kk : ∀ (H : Heap) (locs : List Loc) (ls : Array Slot), zI D cy Ac Am s Sc' Sm' z' H locs → lv_has ls 4 [(0, .ref b), (1, .ref bc), (2, .ref bm), (3, .int x3)] → W p l e room_1 s m #[Value.ref b] below meth c H locs (q + MC) (w + MS) Q (F0 m 1189 ls [])) : W p l e room_1 s m #[Value.ref b] below meth c H locs q w Q (F0 m 237 ls []) := by
  obtain ⟨hx, hb, hml, hown, hr, hlocks, hT⟩ := id C.1
  obtain ⟨hH1, hH2, hS, hAz⟩ := hI
  have hdis := C.2.2.2.2.2.1
  unfold LF3 at h
  obtain ⟨u1, eu1, h⟩ := zb_some h
  obtain ⟨r, S1, e1, h⟩ := zb2_some h
  obtain ⟨u2, eu2, h⟩ := zb_some h
  obtain ⟨r2, S2, e2, h⟩ := zb2_some h
  split at h
  · next hr2 =>
    cases h
    refine lv_aload_n hx hb dL_law_237 rfl (lv_at hl 1 rfl) ?_
    refine lv_aload_n hx hb dL_law_238 rfl (lv_at hl 0 rfl) ?_
    refine lv_iload_n hx hb dL_law_239 rfl (lv_at hl 3 rfl) ?_
    refine lv_iconst (v := (1 : Int32)) hx hb dL_law_240 (by decide) ?_
    refine lv_iadd hx hb dL_law_241 ?_
    refine z_sld C hS (j := i + 1) (by rw [hx3]; exact nI_add i 1) (by omega) dL_law_242 ?_
    refine lv_aload_n hx hb dL_law_243 rfl (lv_at hl 0 rfl) ?_
    refine lv_iload_n hx hb dL_law_244 rfl (lv_at hl 3 rfl) ?_
    refine lv_iconst (v := (2 : Int32)) hx hb dL_law_245 (by decide) ?_
    refine lv_iadd hx hb dL_law_246 ?_
    refine z_sld C hS (j := i + 2) (by rw [hx3]; exact nI_add i 2) (by omega) dL_law_247 ?_
    refine z_cV2 (As := [.int (xs (i + 1)), .int (xs (i + 2))]) C.1 hl hH1 hH2 hS C.2.2.2.1 (fun q h1 h2 => hdis q h2 h1) mlL_28 eu1 (kX7_lack e1) rfl rfl (Nat.le_of_ble_eq_true rfl) ⟨rfl, rfl, Nat.le_of_ble_eq_true rfl, Nat.le_of_ble_eq_true rfl⟩ ⟨by show q + 0 ≤ 600000; omega, by show w + 0 ≤ 7302250; omega⟩ dL_law_248 (fun H locs hH1 hH2 hS hzz => ?_)
    refine lv_aload_n hx hb dL_law_251 rfl (lv_at hl 2 rfl) ?_
    refine lv_aload_n hx hb dL_law_252 rfl (lv_at hl 0 rfl) ?_
    refine lv_iload_n hx hb dL_law_253 rfl (lv_at hl 3 rfl) ?_
    refine lv_iconst (v := (1 : Int32)) hx hb dL_law_254 (by decide) ?_
    refine lv_iadd hx hb dL_law_255 ?_
    refine z_sld C hS (j := i + 1) (by rw [hx3]; exact nI_add i 1) (by omega) dL_law_256 ?_
    refine lv_aload_n hx hb dL_law_257 rfl (lv_at hl 0 rfl) ?_
    refine lv_iload_n hx hb dL_law_258 rfl (lv_at hl 3 rfl) ?_
    refine lv_iconst (v := (2 : Int32)) hx hb dL_law_259 (by decide) ?_
    refine lv_iadd hx hb dL_law_260 ?_
    refine z_sld C hS (j := i + 2) (by rw [hx3]; exact nI_add i 2) (by omega) dL_law_261 ?_
    refine z_cV2 (As := [.int (xs (i + 1)), .int (xs (i + 2))]) C.1 hl hH2 hH1 hS C.2.2.2.2.1 hdis mlL_31 eu2 (kX8_lack e2) rfl rfl (Nat.le_of_ble_eq_true rfl) ⟨rfl, rfl, Nat.le_of_ble_eq_true rfl, Nat.le_of_ble_eq_true rfl⟩ ⟨by show q + 0 + 0 ≤ 600000; omega, by show w + 0 + 0 ≤ 7302250; omega⟩ dL_law_262 (fun H locs hH2 hH1 hS hzz2 => ?_)
    refine lv_icmp_eq (tgt := 1189) hx hb dL_law_265 (by decide) (fun _ => ?_) (fun c9 => absurd (hr2) c9)
    exact W.widen (show q + 0 + 0 ≤ q + MC by omega) (show w + 0 + 0 ≤ w + MS by omega) (kk _ _ _ ⟨hH1, hH2, hS, hAz⟩ hl)
  · cases h
set_option maxRecDepth 100000 in
set_option maxHeartbeats 4000000 in
theorem wL_4 (C : zL D cy Ac Am p s m meth c b L xs) {N MC MS bc bm i : Nat} {Sc Sm Sc' Sm' : zS} {z z' q w : Nat} {H : Heap} {locs : List Loc} {ls : Array Slot} {x3 : Int32} (hx3 : x3 = nI i) (hi : i + 4 < L) (hq : q + MC ≤ 600000) (hw : w + MS ≤ 7302250) (hI : zI D cy Ac Am s Sc Sm z H locs) (hl : lv_has ls 4 [(0, .ref b), (1, .ref bc), (2, .ref bm), (3, .int x3)]) (h : LF4 N MC MS bc bm (xs (i + 1)) (xs (i + 2)) (xs (i + 3)) (xs (i + 4)) Sc Sm z = some (Sc', Sm', z')) (kk : ∀ (H : Heap) (locs : List Loc) (ls : Array Slot), zI D cy Ac Am s Sc' Sm' z' H locs → lv_has ls 4 [(0, .ref b), (1, .ref bc), (2, .ref bm), (3, .int x3)] → W p l e room_1 s m #[Value.ref b] below meth c H locs (q + MC) (w + MS) Q (F0 m 1189 ls [])) : W p l e room_1 s m #[Value.ref b] below meth c H locs q w Q (F0 m 270 ls []) := by
  obtain ⟨hx, hb, hml, hown, hr, hlocks, hT⟩ := id C.1
  obtain ⟨hH1, hH2, hS, hAz⟩ := hI
  have hdis := C.2.2.2.2.2.1
  unfold LF4 at h
  obtain ⟨u1, eu1, h⟩ := zb_some h
  obtain ⟨r, S1, e1, h⟩ := zb2_some h
  obtain ⟨u2, eu2, h⟩ := zb_some h
  obtain ⟨r2, S2, e2, h⟩ := zb2_some h
  split at h
  · next hr2 =>
    cases h
    refine lv_aload_n hx hb dL_law_270 rfl (lv_at hl 1 rfl) ?_
    refine lv_aload_n hx hb dL_law_271 rfl (lv_at hl 0 rfl) ?_
    refine lv_iload_n hx hb dL_law_272 rfl (lv_at hl 3 rfl) ?_
    refine lv_iconst (v := (1 : Int32)) hx hb dL_law_273 (by decide) ?_
    refine lv_iadd hx hb dL_law_274 ?_
    refine z_sld C hS (j := i + 1) (by rw [hx3]; exact nI_add i 1) (by omega) dL_law_275 ?_
    refine lv_aload_n hx hb dL_law_276 rfl (lv_at hl 0 rfl) ?_
    refine lv_iload_n hx hb dL_law_277 rfl (lv_at hl 3 rfl) ?_
    refine lv_iconst (v := (2 : Int32)) hx hb dL_law_278 (by decide) ?_
    refine lv_iadd hx hb dL_law_279 ?_
    refine z_sld C hS (j := i + 2) (by rw [hx3]; exact nI_add i 2) (by omega) dL_law_280 ?_
    refine lv_aload_n hx hb dL_law_281 rfl (lv_at hl 0 rfl) ?_
    refine lv_iload_n hx hb dL_law_282 rfl (lv_at hl 3 rfl) ?_
    refine lv_iconst (v := (3 : Int32)) hx hb dL_law_283 (by decide) ?_
    refine lv_iadd hx hb dL_law_284 ?_
    refine z_sld C hS (j := i + 3) (by rw [hx3]; exact nI_add i 3) (by omega) dL_law_285 ?_
    refine z_cV2 (As := [.int (xs (i + 1)), .int (xs (i + 2)), .int (xs (i + 3))]) C.1 hl hH1 hH2 hS C.2.2.2.1 (fun q h1 h2 => hdis q h2 h1) mlL_32 eu1 (kX7_word e1) rfl rfl (Nat.le_of_ble_eq_true rfl) ⟨rfl, rfl, Nat.le_of_ble_eq_true rfl, Nat.le_of_ble_eq_true rfl⟩ ⟨by show q + 0 ≤ 600000; omega, by show w + 0 ≤ 7302250; omega⟩ dL_law_286 (fun H locs hH1 hH2 hS hzz => ?_)
    refine lv_aload_n hx hb dL_law_289 rfl (lv_at hl 2 rfl) ?_
    refine lv_aload_n hx hb dL_law_290 rfl (lv_at hl 0 rfl) ?_
    refine lv_iload_n hx hb dL_law_291 rfl (lv_at hl 3 rfl) ?_
    refine lv_iconst (v := (1 : Int32)) hx hb dL_law_292 (by decide) ?_
    refine lv_iadd hx hb dL_law_293 ?_
    refine z_sld C hS (j := i + 1) (by rw [hx3]; exact nI_add i 1) (by omega) dL_law_294 ?_
    refine lv_aload_n hx hb dL_law_295 rfl (lv_at hl 0 rfl) ?_
    refine lv_iload_n hx hb dL_law_296 rfl (lv_at hl 3 rfl) ?_
    refine lv_iconst (v := (2 : Int32)) hx hb dL_law_297 (by decide) ?_
    refine lv_iadd hx hb dL_law_298 ?_
    refine z_sld C hS (j := i + 2) (by rw [hx3]; exact nI_add i 2) (by omega) dL_law_299 ?_
    refine lv_aload_n hx hb dL_law_300 rfl (lv_at hl 0 rfl) ?_
    refine lv_iload_n hx hb dL_law_301 rfl (lv_at hl 3 rfl) ?_
    refine lv_iconst (v := (3 : Int32)) hx hb dL_law_302 (by decide) ?_
    refine lv_iadd hx hb dL_law_303 ?_
    refine z_sld C hS (j := i + 3) (by rw [hx3]; exact nI_add i 3) (by omega) dL_law_304 ?_
    refine z_cV2 (As := [.int (xs (i + 1)), .int (xs (i + 2)), .int (xs (i + 3))]) C.1 hl hH2 hH1 hS C.2.2.2.2.1 hdis mlL_36 eu2 (kX8_word e2) rfl rfl (Nat.le_of_ble_eq_true rfl) ⟨rfl, rfl, Nat.le_of_ble_eq_true rfl, Nat.le_of_ble_eq_true rfl⟩ ⟨by show q + 0 + 0 ≤ 600000; omega, by show w + 0 + 0 ≤ 7302250; omega⟩ dL_law_305 (fun H locs hH2 hH1 hS hzz2 => ?_)
    refine lv_icmp_eq (tgt := 1189) hx hb dL_law_308 (by decide) (fun _ => ?_) (fun c9 => absurd (hr2) c9)
    exact W.widen (show q + 0 + 0 ≤ q + MC by omega) (show w + 0 + 0 ≤ w + MS by omega) (kk _ _ _ ⟨hH1, hH2, hS, hAz⟩ hl)
  · cases h
set_option maxRecDepth 100000 in
set_option maxHeartbeats 4000000 in
theorem wL_5 (C : zL D cy Ac Am p s m meth c b L xs) {N MC MS bc bm i : Nat} {Sc Sm Sc' Sm' : zS} {z z' q w : Nat} {H : Heap} {locs : List Loc} {ls : Array Slot} {x3 : Int32} (hx3 : x3 = nI i) (hi : i + 4 < L) (hq : q + MC ≤ 600000) (hw : w + MS ≤ 7302250) (hI : zI D cy Ac Am s Sc Sm z H locs) (hl : lv_has ls 4 [(0, .ref b), (1, .ref bc), (2, .ref bm), (3, .int x3)]) (h : LF5 N MC MS bc bm (xs (i + 1)) (xs (i + 2)) (xs (i + 3)) (xs (i + 4)) Sc Sm z = some (Sc', Sm', z')) (kk : ∀ (H : Heap) (locs : List Loc) (ls : Array Slot), zI D cy Ac Am s Sc' Sm' z' H locs → lv_has ls 4 [(0, .ref b), (1, .ref bc), (2, .ref bm), (3, .int x3)] → W p l e room_1 s m #[Value.ref b] below meth c H locs (q + MC) (w + MS) Q (F0 m 1189 ls [])) : W p l e room_1 s m #[Value.ref b] below meth c H locs q w Q (F0 m 313 ls []) := by
  obtain ⟨hx, hb, hml, hown, hr, hlocks, hT⟩ := id C.1
  obtain ⟨hH1, hH2, hS, hAz⟩ := hI
  have hdis := C.2.2.2.2.2.1
  unfold LF5 at h
  obtain ⟨u1, eu1, h⟩ := zb_some h
  obtain ⟨r, S1, e1, h⟩ := zb2_some h
  obtain ⟨u2, eu2, h⟩ := zb_some h
  obtain ⟨r2, S2, e2, h⟩ := zb2_some h
  split at h
  · next hr2 =>
    cases h
    refine lv_aload_n hx hb dL_law_313 rfl (lv_at hl 1 rfl) ?_
    refine lv_aload_n hx hb dL_law_314 rfl (lv_at hl 0 rfl) ?_
    refine lv_iload_n hx hb dL_law_315 rfl (lv_at hl 3 rfl) ?_
    refine lv_iconst (v := (1 : Int32)) hx hb dL_law_316 (by decide) ?_
    refine lv_iadd hx hb dL_law_317 ?_
    refine z_sld C hS (j := i + 1) (by rw [hx3]; exact nI_add i 1) (by omega) dL_law_318 ?_
    refine lv_aload_n hx hb dL_law_319 rfl (lv_at hl 0 rfl) ?_
    refine lv_iload_n hx hb dL_law_320 rfl (lv_at hl 3 rfl) ?_
    refine lv_iconst (v := (2 : Int32)) hx hb dL_law_321 (by decide) ?_
    refine lv_iadd hx hb dL_law_322 ?_
    refine z_sld C hS (j := i + 2) (by rw [hx3]; exact nI_add i 2) (by omega) dL_law_323 ?_
    refine z_cV2 (As := [.int (xs (i + 1)), .int (xs (i + 2))]) C.1 hl hH1 hH2 hS C.2.2.2.1 (fun q h1 h2 => hdis q h2 h1) mlL_37 eu1 (kX7_copy e1) rfl rfl (Nat.le_of_ble_eq_true rfl) ⟨rfl, rfl, Nat.le_of_ble_eq_true rfl, Nat.le_of_ble_eq_true rfl⟩ ⟨by show q + 0 ≤ 600000; omega, by show w + 0 ≤ 7302250; omega⟩ dL_law_324 (fun H locs hH1 hH2 hS hzz => ?_)
    refine lv_aload_n hx hb dL_law_327 rfl (lv_at hl 2 rfl) ?_
    refine lv_aload_n hx hb dL_law_328 rfl (lv_at hl 0 rfl) ?_
    refine lv_iload_n hx hb dL_law_329 rfl (lv_at hl 3 rfl) ?_
    refine lv_iconst (v := (1 : Int32)) hx hb dL_law_330 (by decide) ?_
    refine lv_iadd hx hb dL_law_331 ?_
    refine z_sld C hS (j := i + 1) (by rw [hx3]; exact nI_add i 1) (by omega) dL_law_332 ?_
    refine lv_aload_n hx hb dL_law_333 rfl (lv_at hl 0 rfl) ?_
    refine lv_iload_n hx hb dL_law_334 rfl (lv_at hl 3 rfl) ?_
    refine lv_iconst (v := (2 : Int32)) hx hb dL_law_335 (by decide) ?_
    refine lv_iadd hx hb dL_law_336 ?_
    refine z_sld C hS (j := i + 2) (by rw [hx3]; exact nI_add i 2) (by omega) dL_law_337 ?_
    refine z_cV2 (As := [.int (xs (i + 1)), .int (xs (i + 2))]) C.1 hl hH2 hH1 hS C.2.2.2.2.1 hdis mlL_40 eu2 (kX8_copy e2) rfl rfl (Nat.le_of_ble_eq_true rfl) ⟨rfl, rfl, Nat.le_of_ble_eq_true rfl, Nat.le_of_ble_eq_true rfl⟩ ⟨by show q + 0 + 0 ≤ 600000; omega, by show w + 0 + 0 ≤ 7302250; omega⟩ dL_law_338 (fun H locs hH2 hH1 hS hzz2 => ?_)
    refine lv_icmp_eq (tgt := 1189) hx hb dL_law_341 (by decide) (fun _ => ?_) (fun c9 => absurd (hr2) c9)
    exact W.widen (show q + 0 + 0 ≤ q + MC by omega) (show w + 0 + 0 ≤ w + MS by omega) (kk _ _ _ ⟨hH1, hH2, hS, hAz⟩ hl)
  · cases h
set_option maxRecDepth 100000 in
set_option maxHeartbeats 4000000 in
theorem wL_6 (C : zL D cy Ac Am p s m meth c b L xs) {N MC MS bc bm i : Nat} {Sc Sm Sc' Sm' : zS} {z z' q w : Nat} {H : Heap} {locs : List Loc} {ls : Array Slot} {x3 : Int32} (hx3 : x3 = nI i) (hi : i + 4 < L) (hq : q + MC ≤ 600000) (hw : w + MS ≤ 7302250) (hI : zI D cy Ac Am s Sc Sm z H locs) (hl : lv_has ls 4 [(0, .ref b), (1, .ref bc), (2, .ref bm), (3, .int x3)]) (h : LF6 N MC MS bc bm (xs (i + 1)) (xs (i + 2)) (xs (i + 3)) (xs (i + 4)) Sc Sm z = some (Sc', Sm', z')) (kk : ∀ (H : Heap) (locs : List Loc) (ls : Array Slot), zI D cy Ac Am s Sc' Sm' z' H locs → lv_has ls 4 [(0, .ref b), (1, .ref bc), (2, .ref bm), (3, .int x3)] → W p l e room_1 s m #[Value.ref b] below meth c H locs (q + MC) (w + MS) Q (F0 m 1189 ls [])) : W p l e room_1 s m #[Value.ref b] below meth c H locs q w Q (F0 m 346 ls []) := by
  obtain ⟨hx, hb, hml, hown, hr, hlocks, hT⟩ := id C.1
  obtain ⟨hH1, hH2, hS, hAz⟩ := hI
  have hdis := C.2.2.2.2.2.1
  unfold LF6 at h
  obtain ⟨u1, eu1, h⟩ := zb_some h
  obtain ⟨r, S1, e1, h⟩ := zb2_some h
  obtain ⟨u2, eu2, h⟩ := zb_some h
  obtain ⟨r2, S2, e2, h⟩ := zb2_some h
  split at h
  · next hr2 =>
    cases h
    refine lv_aload_n hx hb dL_law_346 rfl (lv_at hl 1 rfl) ?_
    refine lv_aload_n hx hb dL_law_347 rfl (lv_at hl 0 rfl) ?_
    refine lv_iload_n hx hb dL_law_348 rfl (lv_at hl 3 rfl) ?_
    refine lv_iconst (v := (1 : Int32)) hx hb dL_law_349 (by decide) ?_
    refine lv_iadd hx hb dL_law_350 ?_
    refine z_sld C hS (j := i + 1) (by rw [hx3]; exact nI_add i 1) (by omega) dL_law_351 ?_
    refine lv_aload_n hx hb dL_law_352 rfl (lv_at hl 0 rfl) ?_
    refine lv_iload_n hx hb dL_law_353 rfl (lv_at hl 3 rfl) ?_
    refine lv_iconst (v := (2 : Int32)) hx hb dL_law_354 (by decide) ?_
    refine lv_iadd hx hb dL_law_355 ?_
    refine z_sld C hS (j := i + 2) (by rw [hx3]; exact nI_add i 2) (by omega) dL_law_356 ?_
    refine lv_aload_n hx hb dL_law_357 rfl (lv_at hl 0 rfl) ?_
    refine lv_iload_n hx hb dL_law_358 rfl (lv_at hl 3 rfl) ?_
    refine lv_iconst (v := (3 : Int32)) hx hb dL_law_359 (by decide) ?_
    refine lv_iadd hx hb dL_law_360 ?_
    refine z_sld C hS (j := i + 3) (by rw [hx3]; exact nI_add i 3) (by omega) dL_law_361 ?_
    refine z_cV2 (As := [.int (xs (i + 1)), .int (xs (i + 2)), .int (xs (i + 3))]) C.1 hl hH1 hH2 hS C.2.2.2.1 (fun q h1 h2 => hdis q h2 h1) mlL_41 eu1 (kX7_step e1) rfl rfl (Nat.le_of_ble_eq_true rfl) ⟨rfl, rfl, Nat.le_of_ble_eq_true rfl, Nat.le_of_ble_eq_true rfl⟩ ⟨by show q + 0 ≤ 600000; omega, by show w + 0 ≤ 7302250; omega⟩ dL_law_362 (fun H locs hH1 hH2 hS hzz => ?_)
    refine lv_aload_n hx hb dL_law_365 rfl (lv_at hl 2 rfl) ?_
    refine lv_aload_n hx hb dL_law_366 rfl (lv_at hl 0 rfl) ?_
    refine lv_iload_n hx hb dL_law_367 rfl (lv_at hl 3 rfl) ?_
    refine lv_iconst (v := (1 : Int32)) hx hb dL_law_368 (by decide) ?_
    refine lv_iadd hx hb dL_law_369 ?_
    refine z_sld C hS (j := i + 1) (by rw [hx3]; exact nI_add i 1) (by omega) dL_law_370 ?_
    refine lv_aload_n hx hb dL_law_371 rfl (lv_at hl 0 rfl) ?_
    refine lv_iload_n hx hb dL_law_372 rfl (lv_at hl 3 rfl) ?_
    refine lv_iconst (v := (2 : Int32)) hx hb dL_law_373 (by decide) ?_
    refine lv_iadd hx hb dL_law_374 ?_
    refine z_sld C hS (j := i + 2) (by rw [hx3]; exact nI_add i 2) (by omega) dL_law_375 ?_
    refine lv_aload_n hx hb dL_law_376 rfl (lv_at hl 0 rfl) ?_
    refine lv_iload_n hx hb dL_law_377 rfl (lv_at hl 3 rfl) ?_
    refine lv_iconst (v := (3 : Int32)) hx hb dL_law_378 (by decide) ?_
    refine lv_iadd hx hb dL_law_379 ?_
    refine z_sld C hS (j := i + 3) (by rw [hx3]; exact nI_add i 3) (by omega) dL_law_380 ?_
    refine z_cV2 (As := [.int (xs (i + 1)), .int (xs (i + 2)), .int (xs (i + 3))]) C.1 hl hH2 hH1 hS C.2.2.2.2.1 hdis mlL_44 eu2 (kX8_step e2) rfl rfl (Nat.le_of_ble_eq_true rfl) ⟨rfl, rfl, Nat.le_of_ble_eq_true rfl, Nat.le_of_ble_eq_true rfl⟩ ⟨by show q + 0 + 0 ≤ 600000; omega, by show w + 0 + 0 ≤ 7302250; omega⟩ dL_law_381 (fun H locs hH2 hH1 hS hzz2 => ?_)
    refine lv_icmp_eq (tgt := 1189) hx hb dL_law_384 (by decide) (fun _ => ?_) (fun c9 => absurd (hr2) c9)
    exact W.widen (show q + 0 + 0 ≤ q + MC by omega) (show w + 0 + 0 ≤ w + MS by omega) (kk _ _ _ ⟨hH1, hH2, hS, hAz⟩ hl)
  · cases h
set_option maxRecDepth 100000 in
set_option maxHeartbeats 4000000 in
theorem wL_7 (C : zL D cy Ac Am p s m meth c b L xs) {N MC MS bc bm i : Nat} {Sc Sm Sc' Sm' : zS} {z z' q w : Nat} {H : Heap} {locs : List Loc} {ls : Array Slot} {x3 : Int32} (hx3 : x3 = nI i) (hi : i + 4 < L) (hq : q + MC ≤ 600000) (hw : w + MS ≤ 7302250) (hI : zI D cy Ac Am s Sc Sm z H locs) (hl : lv_has ls 4 [(0, .ref b), (1, .ref bc), (2, .ref bm), (3, .int x3)]) (h : LF7 N MC MS bc bm (xs (i + 1)) (xs (i + 2)) (xs (i + 3)) (xs (i + 4)) Sc Sm z = some (Sc', Sm', z')) (kk : ∀ (H : Heap) (locs : List Loc) (ls : Array Slot), zI D cy Ac Am s Sc' Sm' z' H locs → lv_has ls 4 [(0, .ref b), (1, .ref bc), (2, .ref bm), (3, .int x3)] → W p l e room_1 s m #[Value.ref b] below meth c H locs (q + MC) (w + MS) Q (F0 m 1189 ls [])) : W p l e room_1 s m #[Value.ref b] below meth c H locs q w Q (F0 m 389 ls []) := by
  obtain ⟨hx, hb, hml, hown, hr, hlocks, hT⟩ := id C.1
  obtain ⟨hH1, hH2, hS, hAz⟩ := hI
  have hdis := C.2.2.2.2.2.1
  unfold LF7 at h
  obtain ⟨u1, eu1, h⟩ := zb_some h
  obtain ⟨r, S1, e1, h⟩ := zb2_some h
  obtain ⟨u2, eu2, h⟩ := zb_some h
  obtain ⟨r2, S2, e2, h⟩ := zb2_some h
  split at h
  · next hr2 =>
    cases h
    refine lv_aload_n hx hb dL_law_389 rfl (lv_at hl 1 rfl) ?_
    refine lv_aload_n hx hb dL_law_390 rfl (lv_at hl 0 rfl) ?_
    refine lv_iload_n hx hb dL_law_391 rfl (lv_at hl 3 rfl) ?_
    refine lv_iconst (v := (1 : Int32)) hx hb dL_law_392 (by decide) ?_
    refine lv_iadd hx hb dL_law_393 ?_
    refine z_sld C hS (j := i + 1) (by rw [hx3]; exact nI_add i 1) (by omega) dL_law_394 ?_
    refine lv_aload_n hx hb dL_law_395 rfl (lv_at hl 0 rfl) ?_
    refine lv_iload_n hx hb dL_law_396 rfl (lv_at hl 3 rfl) ?_
    refine lv_iconst (v := (2 : Int32)) hx hb dL_law_397 (by decide) ?_
    refine lv_iadd hx hb dL_law_398 ?_
    refine z_sld C hS (j := i + 2) (by rw [hx3]; exact nI_add i 2) (by omega) dL_law_399 ?_
    refine z_cV2 (As := [.int (xs (i + 1)), .int (xs (i + 2))]) C.1 hl hH1 hH2 hS C.2.2.2.1 (fun q h1 h2 => hdis q h2 h1) mlL_45 eu1 (kX7_need e1) rfl rfl (Nat.le_of_ble_eq_true rfl) ⟨rfl, rfl, Nat.le_of_ble_eq_true rfl, Nat.le_of_ble_eq_true rfl⟩ ⟨by show q + 0 ≤ 600000; omega, by show w + 0 ≤ 7302250; omega⟩ dL_law_400 (fun H locs hH1 hH2 hS hzz => ?_)
    refine lv_aload_n hx hb dL_law_403 rfl (lv_at hl 2 rfl) ?_
    refine lv_aload_n hx hb dL_law_404 rfl (lv_at hl 0 rfl) ?_
    refine lv_iload_n hx hb dL_law_405 rfl (lv_at hl 3 rfl) ?_
    refine lv_iconst (v := (1 : Int32)) hx hb dL_law_406 (by decide) ?_
    refine lv_iadd hx hb dL_law_407 ?_
    refine z_sld C hS (j := i + 1) (by rw [hx3]; exact nI_add i 1) (by omega) dL_law_408 ?_
    refine lv_aload_n hx hb dL_law_409 rfl (lv_at hl 0 rfl) ?_
    refine lv_iload_n hx hb dL_law_410 rfl (lv_at hl 3 rfl) ?_
    refine lv_iconst (v := (2 : Int32)) hx hb dL_law_411 (by decide) ?_
    refine lv_iadd hx hb dL_law_412 ?_
    refine z_sld C hS (j := i + 2) (by rw [hx3]; exact nI_add i 2) (by omega) dL_law_413 ?_
    refine z_cV2 (As := [.int (xs (i + 1)), .int (xs (i + 2))]) C.1 hl hH2 hH1 hS C.2.2.2.2.1 hdis mlL_48 eu2 (kX8_need e2) rfl rfl (Nat.le_of_ble_eq_true rfl) ⟨rfl, rfl, Nat.le_of_ble_eq_true rfl, Nat.le_of_ble_eq_true rfl⟩ ⟨by show q + 0 + 0 ≤ 600000; omega, by show w + 0 + 0 ≤ 7302250; omega⟩ dL_law_414 (fun H locs hH2 hH1 hS hzz2 => ?_)
    refine lv_icmp_eq (tgt := 1189) hx hb dL_law_417 (by decide) (fun _ => ?_) (fun c9 => absurd (hr2) c9)
    exact W.widen (show q + 0 + 0 ≤ q + MC by omega) (show w + 0 + 0 ≤ w + MS by omega) (kk _ _ _ ⟨hH1, hH2, hS, hAz⟩ hl)
  · cases h
set_option maxRecDepth 100000 in
set_option maxHeartbeats 4000000 in
theorem wL_8 (C : zL D cy Ac Am p s m meth c b L xs) {N MC MS bc bm i : Nat} {Sc Sm Sc' Sm' : zS} {z z' q w : Nat} {H : Heap} {locs : List Loc} {ls : Array Slot} {x3 : Int32} (hx3 : x3 = nI i) (hi : i + 4 < L) (hq : q + MC ≤ 600000) (hw : w + MS ≤ 7302250) (hI : zI D cy Ac Am s Sc Sm z H locs) (hl : lv_has ls 4 [(0, .ref b), (1, .ref bc), (2, .ref bm), (3, .int x3)]) (h : LF8 N MC MS bc bm (xs (i + 1)) (xs (i + 2)) (xs (i + 3)) (xs (i + 4)) Sc Sm z = some (Sc', Sm', z')) (kk : ∀ (H : Heap) (locs : List Loc) (ls : Array Slot), zI D cy Ac Am s Sc' Sm' z' H locs → lv_has ls 4 [(0, .ref b), (1, .ref bc), (2, .ref bm), (3, .int x3)] → W p l e room_1 s m #[Value.ref b] below meth c H locs (q + MC) (w + MS) Q (F0 m 1189 ls [])) : W p l e room_1 s m #[Value.ref b] below meth c H locs q w Q (F0 m 422 ls []) := by
  obtain ⟨hx, hb, hml, hown, hr, hlocks, hT⟩ := id C.1
  obtain ⟨hH1, hH2, hS, hAz⟩ := hI
  have hdis := C.2.2.2.2.2.1
  unfold LF8 at h
  obtain ⟨u1, eu1, h⟩ := zb_some h
  obtain ⟨r, S1, z1, e1, h⟩ := zb3_some h
  obtain ⟨u3, eu3, h⟩ := zb_some h
  have hbz := zbud_at eu3
  obtain ⟨u2, eu2, h⟩ := zb_some h
  obtain ⟨r2, S2, e2, h⟩ := zb2_some h
  split at h
  · next hr2 =>
    cases h
    refine lv_aload_n hx hb dL_law_422 rfl (lv_at hl 1 rfl) ?_
    refine lv_aload_n hx hb dL_law_423 rfl (lv_at hl 0 rfl) ?_
    refine lv_iload_n hx hb dL_law_424 rfl (lv_at hl 3 rfl) ?_
    refine lv_iconst (v := (1 : Int32)) hx hb dL_law_425 (by decide) ?_
    refine lv_iadd hx hb dL_law_426 ?_
    refine z_sld C hS (j := i + 1) (by rw [hx3]; exact nI_add i 1) (by omega) dL_law_427 ?_
    refine lv_aload_n hx hb dL_law_428 rfl (lv_at hl 0 rfl) ?_
    refine lv_iload_n hx hb dL_law_429 rfl (lv_at hl 3 rfl) ?_
    refine lv_iconst (v := (2 : Int32)) hx hb dL_law_430 (by decide) ?_
    refine lv_iadd hx hb dL_law_431 ?_
    refine z_sld C hS (j := i + 2) (by rw [hx3]; exact nI_add i 2) (by omega) dL_law_432 ?_
    refine z_cV2 (As := [.int (xs (i + 1)), .int (xs (i + 2))]) C.1 hl hH1 hH2 hS C.2.2.2.1 (fun q h1 h2 => hdis q h2 h1) mlL_49 eu1 (kX7_made hAz e1) rfl rfl (Nat.le_of_ble_eq_true rfl) ⟨rfl, rfl, Nat.le_of_ble_eq_true rfl, Nat.le_of_ble_eq_true rfl⟩ ⟨by show q + (z' - z) ≤ 600000; omega, by show w + 200 * (z' - z) ≤ 7302250; omega⟩ dL_law_433 (fun H locs hH1 hH2 hS hzz => ?_)
    refine lv_aload_n hx hb dL_law_436 rfl (lv_at hl 2 rfl) ?_
    refine lv_aload_n hx hb dL_law_437 rfl (lv_at hl 0 rfl) ?_
    refine lv_iload_n hx hb dL_law_438 rfl (lv_at hl 3 rfl) ?_
    refine lv_iconst (v := (1 : Int32)) hx hb dL_law_439 (by decide) ?_
    refine lv_iadd hx hb dL_law_440 ?_
    refine z_sld C hS (j := i + 1) (by rw [hx3]; exact nI_add i 1) (by omega) dL_law_441 ?_
    refine lv_aload_n hx hb dL_law_442 rfl (lv_at hl 0 rfl) ?_
    refine lv_iload_n hx hb dL_law_443 rfl (lv_at hl 3 rfl) ?_
    refine lv_iconst (v := (2 : Int32)) hx hb dL_law_444 (by decide) ?_
    refine lv_iadd hx hb dL_law_445 ?_
    refine z_sld C hS (j := i + 2) (by rw [hx3]; exact nI_add i 2) (by omega) dL_law_446 ?_
    refine z_cV2 (As := [.int (xs (i + 1)), .int (xs (i + 2))]) C.1 hl hH2 hH1 hS C.2.2.2.2.1 hdis mlL_52 eu2 (kX8_made e2) rfl rfl (Nat.le_of_ble_eq_true rfl) ⟨rfl, rfl, Nat.le_of_ble_eq_true rfl, Nat.le_of_ble_eq_true rfl⟩ ⟨by show q + (z' - z) + 0 ≤ 600000; omega, by show w + 200 * (z' - z) + 0 ≤ 7302250; omega⟩ dL_law_447 (fun H locs hH2 hH1 hS hzz2 => ?_)
    refine lv_icmp_eq (tgt := 1189) hx hb dL_law_450 (by decide) (fun _ => ?_) (fun c9 => absurd (hr2) c9)
    exact W.widen (show q + (z' - z) + 0 ≤ q + MC by omega) (show w + 200 * (z' - z) + 0 ≤ w + MS by omega) (kk _ _ _ ⟨hH1, hH2, hS, fun q h => hAz q (Nat.le_trans hzz h)⟩ hl)
  · cases h
set_option maxRecDepth 100000 in
set_option maxHeartbeats 4000000 in
theorem wL_9 (C : zL D cy Ac Am p s m meth c b L xs) {N MC MS bc bm i : Nat} {Sc Sm Sc' Sm' : zS} {z z' q w : Nat} {H : Heap} {locs : List Loc} {ls : Array Slot} {x3 : Int32} (hx3 : x3 = nI i) (hi : i + 4 < L) (hq : q + MC ≤ 600000) (hw : w + MS ≤ 7302250) (hI : zI D cy Ac Am s Sc Sm z H locs) (hl : lv_has ls 4 [(0, .ref b), (1, .ref bc), (2, .ref bm), (3, .int x3)]) (h : LF9 N MC MS bc bm (xs (i + 1)) (xs (i + 2)) (xs (i + 3)) (xs (i + 4)) Sc Sm z = some (Sc', Sm', z')) (kk : ∀ (H : Heap) (locs : List Loc) (ls : Array Slot), zI D cy Ac Am s Sc' Sm' z' H locs → lv_has ls 4 [(0, .ref b), (1, .ref bc), (2, .ref bm), (3, .int x3)] → W p l e room_1 s m #[Value.ref b] below meth c H locs (q + MC) (w + MS) Q (F0 m 1189 ls [])) : W p l e room_1 s m #[Value.ref b] below meth c H locs q w Q (F0 m 455 ls []) := by
  obtain ⟨hx, hb, hml, hown, hr, hlocks, hT⟩ := id C.1
  obtain ⟨hH1, hH2, hS, hAz⟩ := hI
  have hdis := C.2.2.2.2.2.1
  unfold LF9 at h
  obtain ⟨u1, eu1, h⟩ := zb_some h
  obtain ⟨r, S1, z1, e1, h⟩ := zb3_some h
  obtain ⟨u3, eu3, h⟩ := zb_some h
  have hbz := zbud_at eu3
  obtain ⟨u2, eu2, h⟩ := zb_some h
  obtain ⟨r2, S2, e2, h⟩ := zb2_some h
  split at h
  · next hr2 =>
    cases h
    refine lv_aload_n hx hb dL_law_455 rfl (lv_at hl 1 rfl) ?_
    refine lv_aload_n hx hb dL_law_456 rfl (lv_at hl 0 rfl) ?_
    refine lv_iload_n hx hb dL_law_457 rfl (lv_at hl 3 rfl) ?_
    refine lv_iconst (v := (1 : Int32)) hx hb dL_law_458 (by decide) ?_
    refine lv_iadd hx hb dL_law_459 ?_
    refine z_sld C hS (j := i + 1) (by rw [hx3]; exact nI_add i 1) (by omega) dL_law_460 ?_
    refine lv_aload_n hx hb dL_law_461 rfl (lv_at hl 0 rfl) ?_
    refine lv_iload_n hx hb dL_law_462 rfl (lv_at hl 3 rfl) ?_
    refine lv_iconst (v := (2 : Int32)) hx hb dL_law_463 (by decide) ?_
    refine lv_iadd hx hb dL_law_464 ?_
    refine z_sld C hS (j := i + 2) (by rw [hx3]; exact nI_add i 2) (by omega) dL_law_465 ?_
    refine lv_aload_n hx hb dL_law_466 rfl (lv_at hl 0 rfl) ?_
    refine lv_iload_n hx hb dL_law_467 rfl (lv_at hl 3 rfl) ?_
    refine lv_iconst (v := (3 : Int32)) hx hb dL_law_468 (by decide) ?_
    refine lv_iadd hx hb dL_law_469 ?_
    refine z_sld C hS (j := i + 3) (by rw [hx3]; exact nI_add i 3) (by omega) dL_law_470 ?_
    refine z_cV2 (As := [.int (xs (i + 1)), .int (xs (i + 2)), .int (xs (i + 3))]) C.1 hl hH1 hH2 hS C.2.2.2.1 (fun q h1 h2 => hdis q h2 h1) mlL_53 eu1 (kX7_at hAz e1) rfl rfl (Nat.le_of_ble_eq_true rfl) ⟨rfl, rfl, Nat.le_of_ble_eq_true rfl, Nat.le_of_ble_eq_true rfl⟩ ⟨by show q + (z' - z) ≤ 600000; omega, by show w + 200 * (z' - z) ≤ 7302250; omega⟩ dL_law_471 (fun H locs hH1 hH2 hS hzz => ?_)
    refine lv_aload_n hx hb dL_law_474 rfl (lv_at hl 2 rfl) ?_
    refine lv_aload_n hx hb dL_law_475 rfl (lv_at hl 0 rfl) ?_
    refine lv_iload_n hx hb dL_law_476 rfl (lv_at hl 3 rfl) ?_
    refine lv_iconst (v := (1 : Int32)) hx hb dL_law_477 (by decide) ?_
    refine lv_iadd hx hb dL_law_478 ?_
    refine z_sld C hS (j := i + 1) (by rw [hx3]; exact nI_add i 1) (by omega) dL_law_479 ?_
    refine lv_aload_n hx hb dL_law_480 rfl (lv_at hl 0 rfl) ?_
    refine lv_iload_n hx hb dL_law_481 rfl (lv_at hl 3 rfl) ?_
    refine lv_iconst (v := (2 : Int32)) hx hb dL_law_482 (by decide) ?_
    refine lv_iadd hx hb dL_law_483 ?_
    refine z_sld C hS (j := i + 2) (by rw [hx3]; exact nI_add i 2) (by omega) dL_law_484 ?_
    refine lv_aload_n hx hb dL_law_485 rfl (lv_at hl 0 rfl) ?_
    refine lv_iload_n hx hb dL_law_486 rfl (lv_at hl 3 rfl) ?_
    refine lv_iconst (v := (3 : Int32)) hx hb dL_law_487 (by decide) ?_
    refine lv_iadd hx hb dL_law_488 ?_
    refine z_sld C hS (j := i + 3) (by rw [hx3]; exact nI_add i 3) (by omega) dL_law_489 ?_
    refine z_cV2 (As := [.int (xs (i + 1)), .int (xs (i + 2)), .int (xs (i + 3))]) C.1 hl hH2 hH1 hS C.2.2.2.2.1 hdis mlL_56 eu2 (kX8_at e2) rfl rfl (Nat.le_of_ble_eq_true rfl) ⟨rfl, rfl, Nat.le_of_ble_eq_true rfl, Nat.le_of_ble_eq_true rfl⟩ ⟨by show q + (z' - z) + 0 ≤ 600000; omega, by show w + 200 * (z' - z) + 0 ≤ 7302250; omega⟩ dL_law_490 (fun H locs hH2 hH1 hS hzz2 => ?_)
    refine lv_icmp_eq (tgt := 1189) hx hb dL_law_493 (by decide) (fun _ => ?_) (fun c9 => absurd (hr2) c9)
    exact W.widen (show q + (z' - z) + 0 ≤ q + MC by omega) (show w + 200 * (z' - z) + 0 ≤ w + MS by omega) (kk _ _ _ ⟨hH1, hH2, hS, fun q h => hAz q (Nat.le_trans hzz h)⟩ hl)
  · cases h
set_option maxRecDepth 100000 in
set_option maxHeartbeats 4000000 in
theorem wL_10 (C : zL D cy Ac Am p s m meth c b L xs) {N MC MS bc bm i : Nat} {Sc Sm Sc' Sm' : zS} {z z' q w : Nat} {H : Heap} {locs : List Loc} {ls : Array Slot} {x3 : Int32} (hx3 : x3 = nI i) (hi : i + 4 < L) (hq : q + MC ≤ 600000) (hw : w + MS ≤ 7302250) (hI : zI D cy Ac Am s Sc Sm z H locs) (hl : lv_has ls 4 [(0, .ref b), (1, .ref bc), (2, .ref bm), (3, .int x3)]) (h : LF10 N MC MS bc bm (xs (i + 1)) (xs (i + 2)) (xs (i + 3)) (xs (i + 4)) Sc Sm z = some (Sc', Sm', z')) (kk : ∀ (H : Heap) (locs : List Loc) (ls : Array Slot), zI D cy Ac Am s Sc' Sm' z' H locs → lv_has ls 4 [(0, .ref b), (1, .ref bc), (2, .ref bm), (3, .int x3)] → W p l e room_1 s m #[Value.ref b] below meth c H locs (q + MC) (w + MS) Q (F0 m 1189 ls [])) : W p l e room_1 s m #[Value.ref b] below meth c H locs q w Q (F0 m 498 ls []) := by
  obtain ⟨hx, hb, hml, hown, hr, hlocks, hT⟩ := id C.1
  obtain ⟨hH1, hH2, hS, hAz⟩ := hI
  have hdis := C.2.2.2.2.2.1
  unfold LF10 at h
  obtain ⟨u1, eu1, h⟩ := zb_some h
  obtain ⟨r, S1, z1, e1, h⟩ := zb3_some h
  obtain ⟨u3, eu3, h⟩ := zb_some h
  have hbz := zbud_at eu3
  obtain ⟨u2, eu2, h⟩ := zb_some h
  obtain ⟨r2, S2, e2, h⟩ := zb2_some h
  split at h
  · next hr2 =>
    cases h
    refine lv_aload_n hx hb dL_law_498 rfl (lv_at hl 1 rfl) ?_
    refine lv_aload_n hx hb dL_law_499 rfl (lv_at hl 0 rfl) ?_
    refine lv_iload_n hx hb dL_law_500 rfl (lv_at hl 3 rfl) ?_
    refine lv_iconst (v := (1 : Int32)) hx hb dL_law_501 (by decide) ?_
    refine lv_iadd hx hb dL_law_502 ?_
    refine z_sld C hS (j := i + 1) (by rw [hx3]; exact nI_add i 1) (by omega) dL_law_503 ?_
    refine lv_aload_n hx hb dL_law_504 rfl (lv_at hl 0 rfl) ?_
    refine lv_iload_n hx hb dL_law_505 rfl (lv_at hl 3 rfl) ?_
    refine lv_iconst (v := (2 : Int32)) hx hb dL_law_506 (by decide) ?_
    refine lv_iadd hx hb dL_law_507 ?_
    refine z_sld C hS (j := i + 2) (by rw [hx3]; exact nI_add i 2) (by omega) dL_law_508 ?_
    refine lv_aload_n hx hb dL_law_509 rfl (lv_at hl 0 rfl) ?_
    refine lv_iload_n hx hb dL_law_510 rfl (lv_at hl 3 rfl) ?_
    refine lv_iconst (v := (3 : Int32)) hx hb dL_law_511 (by decide) ?_
    refine lv_iadd hx hb dL_law_512 ?_
    refine z_sld C hS (j := i + 3) (by rw [hx3]; exact nI_add i 3) (by omega) dL_law_513 ?_
    refine z_cV2 (As := [.int (xs (i + 1)), .int (xs (i + 2)), .int (xs (i + 3))]) C.1 hl hH1 hH2 hS C.2.2.2.1 (fun q h1 h2 => hdis q h2 h1) mlL_57 eu1 (kX7_reads hAz e1) rfl rfl (Nat.le_of_ble_eq_true rfl) ⟨rfl, rfl, Nat.le_of_ble_eq_true rfl, Nat.le_of_ble_eq_true rfl⟩ ⟨by show q + (z' - z) ≤ 600000; omega, by show w + 200 * (z' - z) ≤ 7302250; omega⟩ dL_law_514 (fun H locs hH1 hH2 hS hzz => ?_)
    refine lv_aload_n hx hb dL_law_517 rfl (lv_at hl 2 rfl) ?_
    refine lv_aload_n hx hb dL_law_518 rfl (lv_at hl 0 rfl) ?_
    refine lv_iload_n hx hb dL_law_519 rfl (lv_at hl 3 rfl) ?_
    refine lv_iconst (v := (1 : Int32)) hx hb dL_law_520 (by decide) ?_
    refine lv_iadd hx hb dL_law_521 ?_
    refine z_sld C hS (j := i + 1) (by rw [hx3]; exact nI_add i 1) (by omega) dL_law_522 ?_
    refine lv_aload_n hx hb dL_law_523 rfl (lv_at hl 0 rfl) ?_
    refine lv_iload_n hx hb dL_law_524 rfl (lv_at hl 3 rfl) ?_
    refine lv_iconst (v := (2 : Int32)) hx hb dL_law_525 (by decide) ?_
    refine lv_iadd hx hb dL_law_526 ?_
    refine z_sld C hS (j := i + 2) (by rw [hx3]; exact nI_add i 2) (by omega) dL_law_527 ?_
    refine lv_aload_n hx hb dL_law_528 rfl (lv_at hl 0 rfl) ?_
    refine lv_iload_n hx hb dL_law_529 rfl (lv_at hl 3 rfl) ?_
    refine lv_iconst (v := (3 : Int32)) hx hb dL_law_530 (by decide) ?_
    refine lv_iadd hx hb dL_law_531 ?_
    refine z_sld C hS (j := i + 3) (by rw [hx3]; exact nI_add i 3) (by omega) dL_law_532 ?_
    refine z_cV2 (As := [.int (xs (i + 1)), .int (xs (i + 2)), .int (xs (i + 3))]) C.1 hl hH2 hH1 hS C.2.2.2.2.1 hdis mlL_60 eu2 (kX8_reads e2) rfl rfl (Nat.le_of_ble_eq_true rfl) ⟨rfl, rfl, Nat.le_of_ble_eq_true rfl, Nat.le_of_ble_eq_true rfl⟩ ⟨by show q + (z' - z) + 0 ≤ 600000; omega, by show w + 200 * (z' - z) + 0 ≤ 7302250; omega⟩ dL_law_533 (fun H locs hH2 hH1 hS hzz2 => ?_)
    refine lv_icmp_eq (tgt := 1189) hx hb dL_law_536 (by decide) (fun _ => ?_) (fun c9 => absurd (hr2) c9)
    exact W.widen (show q + (z' - z) + 0 ≤ q + MC by omega) (show w + 200 * (z' - z) + 0 ≤ w + MS by omega) (kk _ _ _ ⟨hH1, hH2, hS, fun q h => hAz q (Nat.le_trans hzz h)⟩ hl)
  · cases h
set_option maxRecDepth 100000 in
set_option maxHeartbeats 4000000 in
theorem wL_11 (C : zL D cy Ac Am p s m meth c b L xs) {N MC MS bc bm i : Nat} {Sc Sm Sc' Sm' : zS} {z z' q w : Nat} {H : Heap} {locs : List Loc} {ls : Array Slot} {x3 : Int32} (hx3 : x3 = nI i) (hi : i + 4 < L) (hq : q + MC ≤ 600000) (hw : w + MS ≤ 7302250) (hI : zI D cy Ac Am s Sc Sm z H locs) (hl : lv_has ls 4 [(0, .ref b), (1, .ref bc), (2, .ref bm), (3, .int x3)]) (h : LF11 N MC MS bc bm (xs (i + 1)) (xs (i + 2)) (xs (i + 3)) (xs (i + 4)) Sc Sm z = some (Sc', Sm', z')) (kk : ∀ (H : Heap) (locs : List Loc) (ls : Array Slot), zI D cy Ac Am s Sc' Sm' z' H locs → lv_has ls 4 [(0, .ref b), (1, .ref bc), (2, .ref bm), (3, .int x3)] → W p l e room_1 s m #[Value.ref b] below meth c H locs (q + MC) (w + MS) Q (F0 m 1189 ls [])) : W p l e room_1 s m #[Value.ref b] below meth c H locs q w Q (F0 m 541 ls []) := by
  obtain ⟨hx, hb, hml, hown, hr, hlocks, hT⟩ := id C.1
  obtain ⟨hH1, hH2, hS, hAz⟩ := hI
  have hdis := C.2.2.2.2.2.1
  unfold LF11 at h
  obtain ⟨u1, eu1, h⟩ := zb_some h
  obtain ⟨r, S1, e1, h⟩ := zb2_some h
  obtain ⟨u2, eu2, h⟩ := zb_some h
  obtain ⟨r2, S2, e2, h⟩ := zb2_some h
  split at h
  · next hr2 =>
    cases h
    refine lv_aload_n hx hb dL_law_541 rfl (lv_at hl 1 rfl) ?_
    refine lv_aload_n hx hb dL_law_542 rfl (lv_at hl 0 rfl) ?_
    refine lv_iload_n hx hb dL_law_543 rfl (lv_at hl 3 rfl) ?_
    refine lv_iconst (v := (1 : Int32)) hx hb dL_law_544 (by decide) ?_
    refine lv_iadd hx hb dL_law_545 ?_
    refine z_sld C hS (j := i + 1) (by rw [hx3]; exact nI_add i 1) (by omega) dL_law_546 ?_
    refine lv_aload_n hx hb dL_law_547 rfl (lv_at hl 0 rfl) ?_
    refine lv_iload_n hx hb dL_law_548 rfl (lv_at hl 3 rfl) ?_
    refine lv_iconst (v := (2 : Int32)) hx hb dL_law_549 (by decide) ?_
    refine lv_iadd hx hb dL_law_550 ?_
    refine z_sld C hS (j := i + 2) (by rw [hx3]; exact nI_add i 2) (by omega) dL_law_551 ?_
    refine z_cV2 (As := [.int (xs (i + 1)), .int (xs (i + 2))]) C.1 hl hH1 hH2 hS C.2.2.2.1 (fun q h1 h2 => hdis q h2 h1) mlL_61 eu1 (kX7_uses e1) rfl rfl (Nat.le_of_ble_eq_true rfl) ⟨rfl, rfl, Nat.le_of_ble_eq_true rfl, Nat.le_of_ble_eq_true rfl⟩ ⟨by show q + 0 ≤ 600000; omega, by show w + 0 ≤ 7302250; omega⟩ dL_law_552 (fun H locs hH1 hH2 hS hzz => ?_)
    refine lv_aload_n hx hb dL_law_555 rfl (lv_at hl 2 rfl) ?_
    refine lv_aload_n hx hb dL_law_556 rfl (lv_at hl 0 rfl) ?_
    refine lv_iload_n hx hb dL_law_557 rfl (lv_at hl 3 rfl) ?_
    refine lv_iconst (v := (1 : Int32)) hx hb dL_law_558 (by decide) ?_
    refine lv_iadd hx hb dL_law_559 ?_
    refine z_sld C hS (j := i + 1) (by rw [hx3]; exact nI_add i 1) (by omega) dL_law_560 ?_
    refine lv_aload_n hx hb dL_law_561 rfl (lv_at hl 0 rfl) ?_
    refine lv_iload_n hx hb dL_law_562 rfl (lv_at hl 3 rfl) ?_
    refine lv_iconst (v := (2 : Int32)) hx hb dL_law_563 (by decide) ?_
    refine lv_iadd hx hb dL_law_564 ?_
    refine z_sld C hS (j := i + 2) (by rw [hx3]; exact nI_add i 2) (by omega) dL_law_565 ?_
    refine z_cV2 (As := [.int (xs (i + 1)), .int (xs (i + 2))]) C.1 hl hH2 hH1 hS C.2.2.2.2.1 hdis mlL_64 eu2 (kX8_uses e2) rfl rfl (Nat.le_of_ble_eq_true rfl) ⟨rfl, rfl, Nat.le_of_ble_eq_true rfl, Nat.le_of_ble_eq_true rfl⟩ ⟨by show q + 0 + 0 ≤ 600000; omega, by show w + 0 + 0 ≤ 7302250; omega⟩ dL_law_566 (fun H locs hH2 hH1 hS hzz2 => ?_)
    refine lv_icmp_eq (tgt := 1189) hx hb dL_law_569 (by decide) (fun _ => ?_) (fun c9 => absurd (hr2) c9)
    exact W.widen (show q + 0 + 0 ≤ q + MC by omega) (show w + 0 + 0 ≤ w + MS by omega) (kk _ _ _ ⟨hH1, hH2, hS, hAz⟩ hl)
  · cases h
set_option maxRecDepth 100000 in
set_option maxHeartbeats 4000000 in
theorem wL_12 (C : zL D cy Ac Am p s m meth c b L xs) {N MC MS bc bm i : Nat} {Sc Sm Sc' Sm' : zS} {z z' q w : Nat} {H : Heap} {locs : List Loc} {ls : Array Slot} {x3 : Int32} (hx3 : x3 = nI i) (hi : i + 4 < L) (hq : q + MC ≤ 600000) (hw : w + MS ≤ 7302250) (hI : zI D cy Ac Am s Sc Sm z H locs) (hl : lv_has ls 4 [(0, .ref b), (1, .ref bc), (2, .ref bm), (3, .int x3)]) (h : LF12 N MC MS bc bm (xs (i + 1)) (xs (i + 2)) (xs (i + 3)) (xs (i + 4)) Sc Sm z = some (Sc', Sm', z')) (kk : ∀ (H : Heap) (locs : List Loc) (ls : Array Slot), zI D cy Ac Am s Sc' Sm' z' H locs → lv_has ls 4 [(0, .ref b), (1, .ref bc), (2, .ref bm), (3, .int x3)] → W p l e room_1 s m #[Value.ref b] below meth c H locs (q + MC) (w + MS) Q (F0 m 1189 ls [])) : W p l e room_1 s m #[Value.ref b] below meth c H locs q w Q (F0 m 574 ls []) := by
  obtain ⟨hx, hb, hml, hown, hr, hlocks, hT⟩ := id C.1
  obtain ⟨hH1, hH2, hS, hAz⟩ := hI
  have hdis := C.2.2.2.2.2.1
  unfold LF12 at h
  obtain ⟨u1, eu1, h⟩ := zb_some h
  obtain ⟨r, S1, z1, e1, h⟩ := zb3_some h
  obtain ⟨u2, eu2, h⟩ := zb_some h
  obtain ⟨r2, S2, e2, h⟩ := zb2_some h
  split at h
  · next hr2 =>
    cases h
    refine lv_aload_n hx hb dL_law_574 rfl (lv_at hl 1 rfl) ?_
    refine lv_aload_n hx hb dL_law_575 rfl (lv_at hl 0 rfl) ?_
    refine lv_iload_n hx hb dL_law_576 rfl (lv_at hl 3 rfl) ?_
    refine lv_iconst (v := (1 : Int32)) hx hb dL_law_577 (by decide) ?_
    refine lv_iadd hx hb dL_law_578 ?_
    refine z_sld C hS (j := i + 1) (by rw [hx3]; exact nI_add i 1) (by omega) dL_law_579 ?_
    refine z_cV2 (As := [.int (xs (i + 1))]) C.1 hl hH1 hH2 hS C.2.2.2.1 (fun q h1 h2 => hdis q h2 h1) mlL_65 eu1 (kX7_orders hAz e1) rfl rfl (Nat.le_of_ble_eq_true rfl) ⟨rfl, rfl, Nat.le_of_ble_eq_true rfl, Nat.le_of_ble_eq_true rfl⟩ ⟨hq, hw⟩ dL_law_580 (fun H locs hH1 hH2 hS hzz => ?_)
    refine lv_aload_n hx hb dL_law_583 rfl (lv_at hl 2 rfl) ?_
    refine lv_aload_n hx hb dL_law_584 rfl (lv_at hl 0 rfl) ?_
    refine lv_iload_n hx hb dL_law_585 rfl (lv_at hl 3 rfl) ?_
    refine lv_iconst (v := (1 : Int32)) hx hb dL_law_586 (by decide) ?_
    refine lv_iadd hx hb dL_law_587 ?_
    refine z_sld C hS (j := i + 1) (by rw [hx3]; exact nI_add i 1) (by omega) dL_law_588 ?_
    refine z_cV2 (As := [.int (xs (i + 1))]) C.1 hl hH2 hH1 hS C.2.2.2.2.1 hdis mlL_69 eu2 (kX8_orders e2) rfl rfl (Nat.le_of_ble_eq_true rfl) ⟨rfl, rfl, Nat.le_of_ble_eq_true rfl, Nat.le_of_ble_eq_true rfl⟩ ⟨by show q + MC + 0 ≤ 600000; omega, by show w + MS + 0 ≤ 7302250; omega⟩ dL_law_589 (fun H locs hH2 hH1 hS hzz2 => ?_)
    refine W.lcmp hx hb dL_law_592 ?_
    refine lv_if_eq (tgt := 1189) hx hb dL_law_593 (by decide) (fun _ => ?_) (fun c9 => absurd (by rw [hr2]; exact z_lcmp _) c9)
    exact kk _ _ _ ⟨hH1, hH2, hS, fun q h => hAz q (Nat.le_trans hzz h)⟩ hl
  · cases h
set_option maxRecDepth 100000 in
set_option maxHeartbeats 4000000 in
theorem wL_13 (C : zL D cy Ac Am p s m meth c b L xs) {N MC MS bc bm i : Nat} {Sc Sm Sc' Sm' : zS} {z z' q w : Nat} {H : Heap} {locs : List Loc} {ls : Array Slot} {x3 : Int32} (hx3 : x3 = nI i) (hi : i + 4 < L) (hq : q + MC ≤ 600000) (hw : w + MS ≤ 7302250) (hI : zI D cy Ac Am s Sc Sm z H locs) (hl : lv_has ls 4 [(0, .ref b), (1, .ref bc), (2, .ref bm), (3, .int x3)]) (h : LF13 N MC MS bc bm (xs (i + 1)) (xs (i + 2)) (xs (i + 3)) (xs (i + 4)) Sc Sm z = some (Sc', Sm', z')) (kk : ∀ (H : Heap) (locs : List Loc) (ls : Array Slot), zI D cy Ac Am s Sc' Sm' z' H locs → lv_has ls 4 [(0, .ref b), (1, .ref bc), (2, .ref bm), (3, .int x3)] → W p l e room_1 s m #[Value.ref b] below meth c H locs (q + MC) (w + MS) Q (F0 m 1189 ls [])) : W p l e room_1 s m #[Value.ref b] below meth c H locs q w Q (F0 m 598 ls []) := by
  obtain ⟨hx, hb, hml, hown, hr, hlocks, hT⟩ := id C.1
  obtain ⟨hH1, hH2, hS, hAz⟩ := hI
  have hdis := C.2.2.2.2.2.1
  unfold LF13 at h
  obtain ⟨u1, eu1, h⟩ := zb_some h
  obtain ⟨r, S1, z1, e1, h⟩ := zb3_some h
  obtain ⟨u3, eu3, h⟩ := zb_some h
  have hbz := zbud_at eu3
  obtain ⟨u2, eu2, h⟩ := zb_some h
  obtain ⟨r2, S2, e2, h⟩ := zb2_some h
  split at h
  · next hr2 =>
    cases h
    refine lv_aload_n hx hb dL_law_598 rfl (lv_at hl 1 rfl) ?_
    refine lv_aload_n hx hb dL_law_599 rfl (lv_at hl 0 rfl) ?_
    refine lv_iload_n hx hb dL_law_600 rfl (lv_at hl 3 rfl) ?_
    refine lv_iconst (v := (1 : Int32)) hx hb dL_law_601 (by decide) ?_
    refine lv_iadd hx hb dL_law_602 ?_
    refine z_sld C hS (j := i + 1) (by rw [hx3]; exact nI_add i 1) (by omega) dL_law_603 ?_
    refine z_cV2 (As := [.int (xs (i + 1))]) C.1 hl hH1 hH2 hS C.2.2.2.1 (fun q h1 h2 => hdis q h2 h1) mlL_70 eu1 (kX7_built hAz e1) rfl rfl (Nat.le_of_ble_eq_true rfl) ⟨rfl, rfl, Nat.le_of_ble_eq_true rfl, Nat.le_of_ble_eq_true rfl⟩ ⟨by show q + (z' - z) ≤ 600000; omega, by show w + 200 * (z' - z) ≤ 7302250; omega⟩ dL_law_604 (fun H locs hH1 hH2 hS hzz => ?_)
    refine lv_aload_n hx hb dL_law_607 rfl (lv_at hl 2 rfl) ?_
    refine lv_aload_n hx hb dL_law_608 rfl (lv_at hl 0 rfl) ?_
    refine lv_iload_n hx hb dL_law_609 rfl (lv_at hl 3 rfl) ?_
    refine lv_iconst (v := (1 : Int32)) hx hb dL_law_610 (by decide) ?_
    refine lv_iadd hx hb dL_law_611 ?_
    refine z_sld C hS (j := i + 1) (by rw [hx3]; exact nI_add i 1) (by omega) dL_law_612 ?_
    refine z_cV2 (As := [.int (xs (i + 1))]) C.1 hl hH2 hH1 hS C.2.2.2.2.1 hdis mlL_73 eu2 (kX8_built e2) rfl rfl (Nat.le_of_ble_eq_true rfl) ⟨rfl, rfl, Nat.le_of_ble_eq_true rfl, Nat.le_of_ble_eq_true rfl⟩ ⟨by show q + (z' - z) + 0 ≤ 600000; omega, by show w + 200 * (z' - z) + 0 ≤ 7302250; omega⟩ dL_law_613 (fun H locs hH2 hH1 hS hzz2 => ?_)
    refine lv_icmp_eq (tgt := 1189) hx hb dL_law_616 (by decide) (fun _ => ?_) (fun c9 => absurd (hr2) c9)
    exact W.widen (show q + (z' - z) + 0 ≤ q + MC by omega) (show w + 200 * (z' - z) + 0 ≤ w + MS by omega) (kk _ _ _ ⟨hH1, hH2, hS, fun q h => hAz q (Nat.le_trans hzz h)⟩ hl)
  · cases h
set_option maxRecDepth 100000 in
set_option maxHeartbeats 4000000 in
theorem wL_14 (C : zL D cy Ac Am p s m meth c b L xs) {N MC MS bc bm i : Nat} {Sc Sm Sc' Sm' : zS} {z z' q w : Nat} {H : Heap} {locs : List Loc} {ls : Array Slot} {x3 : Int32} (hx3 : x3 = nI i) (hi : i + 4 < L) (hq : q + MC ≤ 600000) (hw : w + MS ≤ 7302250) (hI : zI D cy Ac Am s Sc Sm z H locs) (hl : lv_has ls 4 [(0, .ref b), (1, .ref bc), (2, .ref bm), (3, .int x3)]) (h : LF14 N MC MS bc bm (xs (i + 1)) (xs (i + 2)) (xs (i + 3)) (xs (i + 4)) Sc Sm z = some (Sc', Sm', z')) (kk : ∀ (H : Heap) (locs : List Loc) (ls : Array Slot), zI D cy Ac Am s Sc' Sm' z' H locs → lv_has ls 4 [(0, .ref b), (1, .ref bc), (2, .ref bm), (3, .int x3)] → W p l e room_1 s m #[Value.ref b] below meth c H locs (q + MC) (w + MS) Q (F0 m 1189 ls [])) : W p l e room_1 s m #[Value.ref b] below meth c H locs q w Q (F0 m 621 ls []) := by
  obtain ⟨hx, hb, hml, hown, hr, hlocks, hT⟩ := id C.1
  obtain ⟨hH1, hH2, hS, hAz⟩ := hI
  have hdis := C.2.2.2.2.2.1
  unfold LF14 at h
  obtain ⟨u1, eu1, h⟩ := zb_some h
  obtain ⟨r, S1, z1, e1, h⟩ := zb3_some h
  obtain ⟨u3, eu3, h⟩ := zb_some h
  have hbz := zbud_at eu3
  obtain ⟨u2, eu2, h⟩ := zb_some h
  obtain ⟨r2, S2, e2, h⟩ := zb2_some h
  split at h
  · next hr2 =>
    cases h
    refine lv_aload_n hx hb dL_law_621 rfl (lv_at hl 1 rfl) ?_
    refine lv_aload_n hx hb dL_law_622 rfl (lv_at hl 0 rfl) ?_
    refine lv_iload_n hx hb dL_law_623 rfl (lv_at hl 3 rfl) ?_
    refine lv_iconst (v := (1 : Int32)) hx hb dL_law_624 (by decide) ?_
    refine lv_iadd hx hb dL_law_625 ?_
    refine z_sld C hS (j := i + 1) (by rw [hx3]; exact nI_add i 1) (by omega) dL_law_626 ?_
    refine lv_aload_n hx hb dL_law_627 rfl (lv_at hl 0 rfl) ?_
    refine lv_iload_n hx hb dL_law_628 rfl (lv_at hl 3 rfl) ?_
    refine lv_iconst (v := (2 : Int32)) hx hb dL_law_629 (by decide) ?_
    refine lv_iadd hx hb dL_law_630 ?_
    refine z_sld C hS (j := i + 2) (by rw [hx3]; exact nI_add i 2) (by omega) dL_law_631 ?_
    refine lv_aload_n hx hb dL_law_632 rfl (lv_at hl 0 rfl) ?_
    refine lv_iload_n hx hb dL_law_633 rfl (lv_at hl 3 rfl) ?_
    refine lv_iconst (v := (3 : Int32)) hx hb dL_law_634 (by decide) ?_
    refine lv_iadd hx hb dL_law_635 ?_
    refine z_sld C hS (j := i + 3) (by rw [hx3]; exact nI_add i 3) (by omega) dL_law_636 ?_
    refine z_cV2 (As := [.int (xs (i + 1)), .int (xs (i + 2)), .int (xs (i + 3))]) C.1 hl hH1 hH2 hS C.2.2.2.1 (fun q h1 h2 => hdis q h2 h1) mlL_74 eu1 (kX7_alike hAz e1) rfl rfl (Nat.le_of_ble_eq_true rfl) ⟨rfl, rfl, Nat.le_of_ble_eq_true rfl, Nat.le_of_ble_eq_true rfl⟩ ⟨by show q + (z' - z) ≤ 600000; omega, by show w + 200 * (z' - z) ≤ 7302250; omega⟩ dL_law_637 (fun H locs hH1 hH2 hS hzz => ?_)
    refine lv_aload_n hx hb dL_law_640 rfl (lv_at hl 2 rfl) ?_
    refine lv_aload_n hx hb dL_law_641 rfl (lv_at hl 0 rfl) ?_
    refine lv_iload_n hx hb dL_law_642 rfl (lv_at hl 3 rfl) ?_
    refine lv_iconst (v := (1 : Int32)) hx hb dL_law_643 (by decide) ?_
    refine lv_iadd hx hb dL_law_644 ?_
    refine z_sld C hS (j := i + 1) (by rw [hx3]; exact nI_add i 1) (by omega) dL_law_645 ?_
    refine lv_aload_n hx hb dL_law_646 rfl (lv_at hl 0 rfl) ?_
    refine lv_iload_n hx hb dL_law_647 rfl (lv_at hl 3 rfl) ?_
    refine lv_iconst (v := (2 : Int32)) hx hb dL_law_648 (by decide) ?_
    refine lv_iadd hx hb dL_law_649 ?_
    refine z_sld C hS (j := i + 2) (by rw [hx3]; exact nI_add i 2) (by omega) dL_law_650 ?_
    refine lv_aload_n hx hb dL_law_651 rfl (lv_at hl 0 rfl) ?_
    refine lv_iload_n hx hb dL_law_652 rfl (lv_at hl 3 rfl) ?_
    refine lv_iconst (v := (3 : Int32)) hx hb dL_law_653 (by decide) ?_
    refine lv_iadd hx hb dL_law_654 ?_
    refine z_sld C hS (j := i + 3) (by rw [hx3]; exact nI_add i 3) (by omega) dL_law_655 ?_
    refine z_cV2 (As := [.int (xs (i + 1)), .int (xs (i + 2)), .int (xs (i + 3))]) C.1 hl hH2 hH1 hS C.2.2.2.2.1 hdis mlL_77 eu2 (kX8_alike e2) rfl rfl (Nat.le_of_ble_eq_true rfl) ⟨rfl, rfl, Nat.le_of_ble_eq_true rfl, Nat.le_of_ble_eq_true rfl⟩ ⟨by show q + (z' - z) + 0 ≤ 600000; omega, by show w + 200 * (z' - z) + 0 ≤ 7302250; omega⟩ dL_law_656 (fun H locs hH2 hH1 hS hzz2 => ?_)
    refine lv_icmp_eq (tgt := 1189) hx hb dL_law_659 (by decide) (fun _ => ?_) (fun c9 => absurd (hr2) c9)
    exact W.widen (show q + (z' - z) + 0 ≤ q + MC by omega) (show w + 200 * (z' - z) + 0 ≤ w + MS by omega) (kk _ _ _ ⟨hH1, hH2, hS, fun q h => hAz q (Nat.le_trans hzz h)⟩ hl)
  · cases h
set_option maxRecDepth 100000 in
set_option maxHeartbeats 4000000 in
theorem wL_15 (C : zL D cy Ac Am p s m meth c b L xs) {N MC MS bc bm i : Nat} {Sc Sm Sc' Sm' : zS} {z z' q w : Nat} {H : Heap} {locs : List Loc} {ls : Array Slot} {x3 : Int32} (hx3 : x3 = nI i) (hi : i + 4 < L) (hq : q + MC ≤ 600000) (hw : w + MS ≤ 7302250) (hI : zI D cy Ac Am s Sc Sm z H locs) (hl : lv_has ls 4 [(0, .ref b), (1, .ref bc), (2, .ref bm), (3, .int x3)]) (h : LF15 N MC MS bc bm (xs (i + 1)) (xs (i + 2)) (xs (i + 3)) (xs (i + 4)) Sc Sm z = some (Sc', Sm', z')) (kk : ∀ (H : Heap) (locs : List Loc) (ls : Array Slot), zI D cy Ac Am s Sc' Sm' z' H locs → lv_has ls 4 [(0, .ref b), (1, .ref bc), (2, .ref bm), (3, .int x3)] → W p l e room_1 s m #[Value.ref b] below meth c H locs (q + MC) (w + MS) Q (F0 m 1189 ls [])) : W p l e room_1 s m #[Value.ref b] below meth c H locs q w Q (F0 m 664 ls []) := by
  obtain ⟨hx, hb, hml, hown, hr, hlocks, hT⟩ := id C.1
  obtain ⟨hH1, hH2, hS, hAz⟩ := hI
  have hdis := C.2.2.2.2.2.1
  unfold LF15 at h
  obtain ⟨u1, eu1, h⟩ := zb_some h
  obtain ⟨r, S1, z1, e1, h⟩ := zb3_some h
  obtain ⟨u3, eu3, h⟩ := zb_some h
  have hbz := zbud_at eu3
  obtain ⟨u2, eu2, h⟩ := zb_some h
  obtain ⟨r2, S2, e2, h⟩ := zb2_some h
  split at h
  · next hr2 =>
    cases h
    refine lv_aload_n hx hb dL_law_664 rfl (lv_at hl 1 rfl) ?_
    refine lv_aload_n hx hb dL_law_665 rfl (lv_at hl 0 rfl) ?_
    refine lv_iload_n hx hb dL_law_666 rfl (lv_at hl 3 rfl) ?_
    refine lv_iconst (v := (1 : Int32)) hx hb dL_law_667 (by decide) ?_
    refine lv_iadd hx hb dL_law_668 ?_
    refine z_sld C hS (j := i + 1) (by rw [hx3]; exact nI_add i 1) (by omega) dL_law_669 ?_
    refine lv_aload_n hx hb dL_law_670 rfl (lv_at hl 0 rfl) ?_
    refine lv_iload_n hx hb dL_law_671 rfl (lv_at hl 3 rfl) ?_
    refine lv_iconst (v := (2 : Int32)) hx hb dL_law_672 (by decide) ?_
    refine lv_iadd hx hb dL_law_673 ?_
    refine z_sld C hS (j := i + 2) (by rw [hx3]; exact nI_add i 2) (by omega) dL_law_674 ?_
    refine lv_aload_n hx hb dL_law_675 rfl (lv_at hl 0 rfl) ?_
    refine lv_iload_n hx hb dL_law_676 rfl (lv_at hl 3 rfl) ?_
    refine lv_iconst (v := (3 : Int32)) hx hb dL_law_677 (by decide) ?_
    refine lv_iadd hx hb dL_law_678 ?_
    refine z_sld C hS (j := i + 3) (by rw [hx3]; exact nI_add i 3) (by omega) dL_law_679 ?_
    refine z_cV2 (As := [.int (xs (i + 1)), .int (xs (i + 2)), .int (xs (i + 3))]) C.1 hl hH1 hH2 hS C.2.2.2.1 (fun q h1 h2 => hdis q h2 h1) mlL_78 eu1 (kX7_changes hAz e1) rfl rfl (Nat.le_of_ble_eq_true rfl) ⟨rfl, rfl, Nat.le_of_ble_eq_true rfl, Nat.le_of_ble_eq_true rfl⟩ ⟨by show q + (z' - z) ≤ 600000; omega, by show w + 200 * (z' - z) ≤ 7302250; omega⟩ dL_law_680 (fun H locs hH1 hH2 hS hzz => ?_)
    refine lv_aload_n hx hb dL_law_683 rfl (lv_at hl 2 rfl) ?_
    refine lv_aload_n hx hb dL_law_684 rfl (lv_at hl 0 rfl) ?_
    refine lv_iload_n hx hb dL_law_685 rfl (lv_at hl 3 rfl) ?_
    refine lv_iconst (v := (1 : Int32)) hx hb dL_law_686 (by decide) ?_
    refine lv_iadd hx hb dL_law_687 ?_
    refine z_sld C hS (j := i + 1) (by rw [hx3]; exact nI_add i 1) (by omega) dL_law_688 ?_
    refine lv_aload_n hx hb dL_law_689 rfl (lv_at hl 0 rfl) ?_
    refine lv_iload_n hx hb dL_law_690 rfl (lv_at hl 3 rfl) ?_
    refine lv_iconst (v := (2 : Int32)) hx hb dL_law_691 (by decide) ?_
    refine lv_iadd hx hb dL_law_692 ?_
    refine z_sld C hS (j := i + 2) (by rw [hx3]; exact nI_add i 2) (by omega) dL_law_693 ?_
    refine lv_aload_n hx hb dL_law_694 rfl (lv_at hl 0 rfl) ?_
    refine lv_iload_n hx hb dL_law_695 rfl (lv_at hl 3 rfl) ?_
    refine lv_iconst (v := (3 : Int32)) hx hb dL_law_696 (by decide) ?_
    refine lv_iadd hx hb dL_law_697 ?_
    refine z_sld C hS (j := i + 3) (by rw [hx3]; exact nI_add i 3) (by omega) dL_law_698 ?_
    refine z_cV2 (As := [.int (xs (i + 1)), .int (xs (i + 2)), .int (xs (i + 3))]) C.1 hl hH2 hH1 hS C.2.2.2.2.1 hdis mlL_81 eu2 (kX8_changes e2) rfl rfl (Nat.le_of_ble_eq_true rfl) ⟨rfl, rfl, Nat.le_of_ble_eq_true rfl, Nat.le_of_ble_eq_true rfl⟩ ⟨by show q + (z' - z) + 0 ≤ 600000; omega, by show w + 200 * (z' - z) + 0 ≤ 7302250; omega⟩ dL_law_699 (fun H locs hH2 hH1 hS hzz2 => ?_)
    refine lv_icmp_eq (tgt := 1189) hx hb dL_law_702 (by decide) (fun _ => ?_) (fun c9 => absurd (hr2) c9)
    exact W.widen (show q + (z' - z) + 0 ≤ q + MC by omega) (show w + 200 * (z' - z) + 0 ≤ w + MS by omega) (kk _ _ _ ⟨hH1, hH2, hS, fun q h => hAz q (Nat.le_trans hzz h)⟩ hl)
  · cases h
set_option maxRecDepth 100000 in
set_option maxHeartbeats 4000000 in
theorem wL_16 (C : zL D cy Ac Am p s m meth c b L xs) {N MC MS bc bm i : Nat} {Sc Sm Sc' Sm' : zS} {z z' q w : Nat} {H : Heap} {locs : List Loc} {ls : Array Slot} {x3 : Int32} (hx3 : x3 = nI i) (hi : i + 4 < L) (hq : q + MC ≤ 600000) (hw : w + MS ≤ 7302250) (hI : zI D cy Ac Am s Sc Sm z H locs) (hl : lv_has ls 4 [(0, .ref b), (1, .ref bc), (2, .ref bm), (3, .int x3)]) (h : LF16 N MC MS bc bm (xs (i + 1)) (xs (i + 2)) (xs (i + 3)) (xs (i + 4)) Sc Sm z = some (Sc', Sm', z')) (kk : ∀ (H : Heap) (locs : List Loc) (ls : Array Slot), zI D cy Ac Am s Sc' Sm' z' H locs → lv_has ls 4 [(0, .ref b), (1, .ref bc), (2, .ref bm), (3, .int x3)] → W p l e room_1 s m #[Value.ref b] below meth c H locs (q + MC) (w + MS) Q (F0 m 1189 ls [])) : W p l e room_1 s m #[Value.ref b] below meth c H locs q w Q (F0 m 707 ls []) := by
  obtain ⟨hx, hb, hml, hown, hr, hlocks, hT⟩ := id C.1
  obtain ⟨hH1, hH2, hS, hAz⟩ := hI
  have hdis := C.2.2.2.2.2.1
  unfold LF16 at h
  obtain ⟨u1, eu1, h⟩ := zb_some h
  obtain ⟨r, S1, e1, h⟩ := zb2_some h
  obtain ⟨u2, eu2, h⟩ := zb_some h
  obtain ⟨r2, S2, e2, h⟩ := zb2_some h
  split at h
  · next hr2 =>
    cases h
    refine lv_aload_n hx hb dL_law_707 rfl (lv_at hl 1 rfl) ?_
    refine lv_aload_n hx hb dL_law_708 rfl (lv_at hl 0 rfl) ?_
    refine lv_iload_n hx hb dL_law_709 rfl (lv_at hl 3 rfl) ?_
    refine lv_iconst (v := (1 : Int32)) hx hb dL_law_710 (by decide) ?_
    refine lv_iadd hx hb dL_law_711 ?_
    refine z_sld C hS (j := i + 1) (by rw [hx3]; exact nI_add i 1) (by omega) dL_law_712 ?_
    refine lv_aload_n hx hb dL_law_713 rfl (lv_at hl 0 rfl) ?_
    refine lv_iload_n hx hb dL_law_714 rfl (lv_at hl 3 rfl) ?_
    refine lv_iconst (v := (2 : Int32)) hx hb dL_law_715 (by decide) ?_
    refine lv_iadd hx hb dL_law_716 ?_
    refine z_sld C hS (j := i + 2) (by rw [hx3]; exact nI_add i 2) (by omega) dL_law_717 ?_
    refine z_cV2 (As := [.int (xs (i + 1)), .int (xs (i + 2))]) C.1 hl hH1 hH2 hS C.2.2.2.1 (fun q h1 h2 => hdis q h2 h1) mlL_82 eu1 (kX7_change e1) rfl rfl (Nat.le_of_ble_eq_true rfl) ⟨rfl, rfl, Nat.le_of_ble_eq_true rfl, Nat.le_of_ble_eq_true rfl⟩ ⟨by show q + 0 ≤ 600000; omega, by show w + 0 ≤ 7302250; omega⟩ dL_law_718 (fun H locs hH1 hH2 hS hzz => ?_)
    refine lv_aload_n hx hb dL_law_721 rfl (lv_at hl 2 rfl) ?_
    refine lv_aload_n hx hb dL_law_722 rfl (lv_at hl 0 rfl) ?_
    refine lv_iload_n hx hb dL_law_723 rfl (lv_at hl 3 rfl) ?_
    refine lv_iconst (v := (1 : Int32)) hx hb dL_law_724 (by decide) ?_
    refine lv_iadd hx hb dL_law_725 ?_
    refine z_sld C hS (j := i + 1) (by rw [hx3]; exact nI_add i 1) (by omega) dL_law_726 ?_
    refine lv_aload_n hx hb dL_law_727 rfl (lv_at hl 0 rfl) ?_
    refine lv_iload_n hx hb dL_law_728 rfl (lv_at hl 3 rfl) ?_
    refine lv_iconst (v := (2 : Int32)) hx hb dL_law_729 (by decide) ?_
    refine lv_iadd hx hb dL_law_730 ?_
    refine z_sld C hS (j := i + 2) (by rw [hx3]; exact nI_add i 2) (by omega) dL_law_731 ?_
    refine z_cV2 (As := [.int (xs (i + 1)), .int (xs (i + 2))]) C.1 hl hH2 hH1 hS C.2.2.2.2.1 hdis mlL_85 eu2 (kX8_change e2) rfl rfl (Nat.le_of_ble_eq_true rfl) ⟨rfl, rfl, Nat.le_of_ble_eq_true rfl, Nat.le_of_ble_eq_true rfl⟩ ⟨by show q + 0 + 0 ≤ 600000; omega, by show w + 0 + 0 ≤ 7302250; omega⟩ dL_law_732 (fun H locs hH2 hH1 hS hzz2 => ?_)
    refine lv_icmp_eq (tgt := 1189) hx hb dL_law_735 (by decide) (fun _ => ?_) (fun c9 => absurd (hr2) c9)
    exact W.widen (show q + 0 + 0 ≤ q + MC by omega) (show w + 0 + 0 ≤ w + MS by omega) (kk _ _ _ ⟨hH1, hH2, hS, hAz⟩ hl)
  · cases h
set_option maxRecDepth 100000 in
set_option maxHeartbeats 4000000 in
theorem wL_17 (C : zL D cy Ac Am p s m meth c b L xs) {N MC MS bc bm i : Nat} {Sc Sm Sc' Sm' : zS} {z z' q w : Nat} {H : Heap} {locs : List Loc} {ls : Array Slot} {x3 : Int32} (hx3 : x3 = nI i) (hi : i + 4 < L) (hq : q + MC ≤ 600000) (hw : w + MS ≤ 7302250) (hI : zI D cy Ac Am s Sc Sm z H locs) (hl : lv_has ls 4 [(0, .ref b), (1, .ref bc), (2, .ref bm), (3, .int x3)]) (h : LF17 N MC MS bc bm (xs (i + 1)) (xs (i + 2)) (xs (i + 3)) (xs (i + 4)) Sc Sm z = some (Sc', Sm', z')) (kk : ∀ (H : Heap) (locs : List Loc) (ls : Array Slot), zI D cy Ac Am s Sc' Sm' z' H locs → lv_has ls 4 [(0, .ref b), (1, .ref bc), (2, .ref bm), (3, .int x3)] → W p l e room_1 s m #[Value.ref b] below meth c H locs (q + MC) (w + MS) Q (F0 m 1189 ls [])) : W p l e room_1 s m #[Value.ref b] below meth c H locs q w Q (F0 m 740 ls []) := by
  obtain ⟨hx, hb, hml, hown, hr, hlocks, hT⟩ := id C.1
  obtain ⟨hH1, hH2, hS, hAz⟩ := hI
  have hdis := C.2.2.2.2.2.1
  unfold LF17 at h
  obtain ⟨u1, eu1, h⟩ := zb_some h
  obtain ⟨r, S1, z1, e1, h⟩ := zb3_some h
  obtain ⟨u3, eu3, h⟩ := zb_some h
  have hbz := zbud_at eu3
  obtain ⟨u2, eu2, h⟩ := zb_some h
  obtain ⟨r2, S2, e2, h⟩ := zb2_some h
  split at h
  · next hr2 =>
    cases h
    refine lv_aload_n hx hb dL_law_740 rfl (lv_at hl 1 rfl) ?_
    refine lv_aload_n hx hb dL_law_741 rfl (lv_at hl 0 rfl) ?_
    refine lv_iload_n hx hb dL_law_742 rfl (lv_at hl 3 rfl) ?_
    refine lv_iconst (v := (1 : Int32)) hx hb dL_law_743 (by decide) ?_
    refine lv_iadd hx hb dL_law_744 ?_
    refine z_sld C hS (j := i + 1) (by rw [hx3]; exact nI_add i 1) (by omega) dL_law_745 ?_
    refine lv_aload_n hx hb dL_law_746 rfl (lv_at hl 0 rfl) ?_
    refine lv_iload_n hx hb dL_law_747 rfl (lv_at hl 3 rfl) ?_
    refine lv_iconst (v := (2 : Int32)) hx hb dL_law_748 (by decide) ?_
    refine lv_iadd hx hb dL_law_749 ?_
    refine z_sld C hS (j := i + 2) (by rw [hx3]; exact nI_add i 2) (by omega) dL_law_750 ?_
    refine lv_aload_n hx hb dL_law_751 rfl (lv_at hl 0 rfl) ?_
    refine lv_iload_n hx hb dL_law_752 rfl (lv_at hl 3 rfl) ?_
    refine lv_iconst (v := (3 : Int32)) hx hb dL_law_753 (by decide) ?_
    refine lv_iadd hx hb dL_law_754 ?_
    refine z_sld C hS (j := i + 3) (by rw [hx3]; exact nI_add i 3) (by omega) dL_law_755 ?_
    refine z_cV2 (As := [.int (xs (i + 1)), .int (xs (i + 2)), .int (xs (i + 3))]) C.1 hl hH1 hH2 hS C.2.2.2.1 (fun q h1 h2 => hdis q h2 h1) mlL_86 eu1 (kX7_cause hAz e1) rfl rfl (Nat.le_of_ble_eq_true rfl) ⟨rfl, rfl, Nat.le_of_ble_eq_true rfl, Nat.le_of_ble_eq_true rfl⟩ ⟨by show q + (z' - z) ≤ 600000; omega, by show w + 200 * (z' - z) ≤ 7302250; omega⟩ dL_law_756 (fun H locs hH1 hH2 hS hzz => ?_)
    refine lv_aload_n hx hb dL_law_759 rfl (lv_at hl 2 rfl) ?_
    refine lv_aload_n hx hb dL_law_760 rfl (lv_at hl 0 rfl) ?_
    refine lv_iload_n hx hb dL_law_761 rfl (lv_at hl 3 rfl) ?_
    refine lv_iconst (v := (1 : Int32)) hx hb dL_law_762 (by decide) ?_
    refine lv_iadd hx hb dL_law_763 ?_
    refine z_sld C hS (j := i + 1) (by rw [hx3]; exact nI_add i 1) (by omega) dL_law_764 ?_
    refine lv_aload_n hx hb dL_law_765 rfl (lv_at hl 0 rfl) ?_
    refine lv_iload_n hx hb dL_law_766 rfl (lv_at hl 3 rfl) ?_
    refine lv_iconst (v := (2 : Int32)) hx hb dL_law_767 (by decide) ?_
    refine lv_iadd hx hb dL_law_768 ?_
    refine z_sld C hS (j := i + 2) (by rw [hx3]; exact nI_add i 2) (by omega) dL_law_769 ?_
    refine lv_aload_n hx hb dL_law_770 rfl (lv_at hl 0 rfl) ?_
    refine lv_iload_n hx hb dL_law_771 rfl (lv_at hl 3 rfl) ?_
    refine lv_iconst (v := (3 : Int32)) hx hb dL_law_772 (by decide) ?_
    refine lv_iadd hx hb dL_law_773 ?_
    refine z_sld C hS (j := i + 3) (by rw [hx3]; exact nI_add i 3) (by omega) dL_law_774 ?_
    refine z_cV2 (As := [.int (xs (i + 1)), .int (xs (i + 2)), .int (xs (i + 3))]) C.1 hl hH2 hH1 hS C.2.2.2.2.1 hdis mlL_89 eu2 (kX8_cause e2) rfl rfl (Nat.le_of_ble_eq_true rfl) ⟨rfl, rfl, Nat.le_of_ble_eq_true rfl, Nat.le_of_ble_eq_true rfl⟩ ⟨by show q + (z' - z) + 0 ≤ 600000; omega, by show w + 200 * (z' - z) + 0 ≤ 7302250; omega⟩ dL_law_775 (fun H locs hH2 hH1 hS hzz2 => ?_)
    refine lv_icmp_eq (tgt := 1189) hx hb dL_law_778 (by decide) (fun _ => ?_) (fun c9 => absurd (hr2) c9)
    exact W.widen (show q + (z' - z) + 0 ≤ q + MC by omega) (show w + 200 * (z' - z) + 0 ≤ w + MS by omega) (kk _ _ _ ⟨hH1, hH2, hS, fun q h => hAz q (Nat.le_trans hzz h)⟩ hl)
  · cases h
set_option maxRecDepth 100000 in
set_option maxHeartbeats 4000000 in
theorem wL_18 (C : zL D cy Ac Am p s m meth c b L xs) {N MC MS bc bm i : Nat} {Sc Sm Sc' Sm' : zS} {z z' q w : Nat} {H : Heap} {locs : List Loc} {ls : Array Slot} {x3 : Int32} (hx3 : x3 = nI i) (hi : i + 4 < L) (hq : q + MC ≤ 600000) (hw : w + MS ≤ 7302250) (hI : zI D cy Ac Am s Sc Sm z H locs) (hl : lv_has ls 4 [(0, .ref b), (1, .ref bc), (2, .ref bm), (3, .int x3)]) (h : LF18 N MC MS bc bm (xs (i + 1)) (xs (i + 2)) (xs (i + 3)) (xs (i + 4)) Sc Sm z = some (Sc', Sm', z')) (kk : ∀ (H : Heap) (locs : List Loc) (ls : Array Slot), zI D cy Ac Am s Sc' Sm' z' H locs → lv_has ls 4 [(0, .ref b), (1, .ref bc), (2, .ref bm), (3, .int x3)] → W p l e room_1 s m #[Value.ref b] below meth c H locs (q + MC) (w + MS) Q (F0 m 1189 ls [])) : W p l e room_1 s m #[Value.ref b] below meth c H locs q w Q (F0 m 783 ls []) := by
  obtain ⟨hx, hb, hml, hown, hr, hlocks, hT⟩ := id C.1
  obtain ⟨hH1, hH2, hS, hAz⟩ := hI
  have hdis := C.2.2.2.2.2.1
  unfold LF18 at h
  obtain ⟨u1, eu1, h⟩ := zb_some h
  obtain ⟨r, S1, z1, e1, h⟩ := zb3_some h
  obtain ⟨u3, eu3, h⟩ := zb_some h
  have hbz := zbud_at eu3
  obtain ⟨u2, eu2, h⟩ := zb_some h
  obtain ⟨r2, S2, e2, h⟩ := zb2_some h
  split at h
  · next hr2 =>
    cases h
    refine lv_aload_n hx hb dL_law_783 rfl (lv_at hl 1 rfl) ?_
    refine lv_aload_n hx hb dL_law_784 rfl (lv_at hl 0 rfl) ?_
    refine lv_iload_n hx hb dL_law_785 rfl (lv_at hl 3 rfl) ?_
    refine lv_iconst (v := (1 : Int32)) hx hb dL_law_786 (by decide) ?_
    refine lv_iadd hx hb dL_law_787 ?_
    refine z_sld C hS (j := i + 1) (by rw [hx3]; exact nI_add i 1) (by omega) dL_law_788 ?_
    refine lv_aload_n hx hb dL_law_789 rfl (lv_at hl 0 rfl) ?_
    refine lv_iload_n hx hb dL_law_790 rfl (lv_at hl 3 rfl) ?_
    refine lv_iconst (v := (2 : Int32)) hx hb dL_law_791 (by decide) ?_
    refine lv_iadd hx hb dL_law_792 ?_
    refine z_sld C hS (j := i + 2) (by rw [hx3]; exact nI_add i 2) (by omega) dL_law_793 ?_
    refine lv_aload_n hx hb dL_law_794 rfl (lv_at hl 0 rfl) ?_
    refine lv_iload_n hx hb dL_law_795 rfl (lv_at hl 3 rfl) ?_
    refine lv_iconst (v := (3 : Int32)) hx hb dL_law_796 (by decide) ?_
    refine lv_iadd hx hb dL_law_797 ?_
    refine z_sld C hS (j := i + 3) (by rw [hx3]; exact nI_add i 3) (by omega) dL_law_798 ?_
    refine z_cV2 (As := [.int (xs (i + 1)), .int (xs (i + 2)), .int (xs (i + 3))]) C.1 hl hH1 hH2 hS C.2.2.2.1 (fun q h1 h2 => hdis q h2 h1) mlL_90 eu1 (kX7_fix hAz e1) rfl rfl (Nat.le_of_ble_eq_true rfl) ⟨rfl, rfl, Nat.le_of_ble_eq_true rfl, Nat.le_of_ble_eq_true rfl⟩ ⟨by show q + (z' - z) ≤ 600000; omega, by show w + 200 * (z' - z) ≤ 7302250; omega⟩ dL_law_799 (fun H locs hH1 hH2 hS hzz => ?_)
    refine lv_aload_n hx hb dL_law_802 rfl (lv_at hl 2 rfl) ?_
    refine lv_aload_n hx hb dL_law_803 rfl (lv_at hl 0 rfl) ?_
    refine lv_iload_n hx hb dL_law_804 rfl (lv_at hl 3 rfl) ?_
    refine lv_iconst (v := (1 : Int32)) hx hb dL_law_805 (by decide) ?_
    refine lv_iadd hx hb dL_law_806 ?_
    refine z_sld C hS (j := i + 1) (by rw [hx3]; exact nI_add i 1) (by omega) dL_law_807 ?_
    refine lv_aload_n hx hb dL_law_808 rfl (lv_at hl 0 rfl) ?_
    refine lv_iload_n hx hb dL_law_809 rfl (lv_at hl 3 rfl) ?_
    refine lv_iconst (v := (2 : Int32)) hx hb dL_law_810 (by decide) ?_
    refine lv_iadd hx hb dL_law_811 ?_
    refine z_sld C hS (j := i + 2) (by rw [hx3]; exact nI_add i 2) (by omega) dL_law_812 ?_
    refine lv_aload_n hx hb dL_law_813 rfl (lv_at hl 0 rfl) ?_
    refine lv_iload_n hx hb dL_law_814 rfl (lv_at hl 3 rfl) ?_
    refine lv_iconst (v := (3 : Int32)) hx hb dL_law_815 (by decide) ?_
    refine lv_iadd hx hb dL_law_816 ?_
    refine z_sld C hS (j := i + 3) (by rw [hx3]; exact nI_add i 3) (by omega) dL_law_817 ?_
    refine z_cV2 (As := [.int (xs (i + 1)), .int (xs (i + 2)), .int (xs (i + 3))]) C.1 hl hH2 hH1 hS C.2.2.2.2.1 hdis mlL_93 eu2 (kX8_fix e2) rfl rfl (Nat.le_of_ble_eq_true rfl) ⟨rfl, rfl, Nat.le_of_ble_eq_true rfl, Nat.le_of_ble_eq_true rfl⟩ ⟨by show q + (z' - z) + 0 ≤ 600000; omega, by show w + 200 * (z' - z) + 0 ≤ 7302250; omega⟩ dL_law_818 (fun H locs hH2 hH1 hS hzz2 => ?_)
    refine lv_icmp_eq (tgt := 1189) hx hb dL_law_821 (by decide) (fun _ => ?_) (fun c9 => absurd (hr2) c9)
    exact W.widen (show q + (z' - z) + 0 ≤ q + MC by omega) (show w + 200 * (z' - z) + 0 ≤ w + MS by omega) (kk _ _ _ ⟨hH1, hH2, hS, fun q h => hAz q (Nat.le_trans hzz h)⟩ hl)
  · cases h
set_option maxRecDepth 100000 in
set_option maxHeartbeats 4000000 in
theorem wL_19 (C : zL D cy Ac Am p s m meth c b L xs) {N MC MS bc bm i : Nat} {Sc Sm Sc' Sm' : zS} {z z' q w : Nat} {H : Heap} {locs : List Loc} {ls : Array Slot} {x3 : Int32} (hx3 : x3 = nI i) (hi : i + 4 < L) (hq : q + MC ≤ 600000) (hw : w + MS ≤ 7302250) (hI : zI D cy Ac Am s Sc Sm z H locs) (hl : lv_has ls 4 [(0, .ref b), (1, .ref bc), (2, .ref bm), (3, .int x3)]) (h : LF19 N MC MS bc bm (xs (i + 1)) (xs (i + 2)) (xs (i + 3)) (xs (i + 4)) Sc Sm z = some (Sc', Sm', z')) (kk : ∀ (H : Heap) (locs : List Loc) (ls : Array Slot), zI D cy Ac Am s Sc' Sm' z' H locs → lv_has ls 4 [(0, .ref b), (1, .ref bc), (2, .ref bm), (3, .int x3)] → W p l e room_1 s m #[Value.ref b] below meth c H locs (q + MC) (w + MS) Q (F0 m 1189 ls [])) : W p l e room_1 s m #[Value.ref b] below meth c H locs q w Q (F0 m 826 ls []) := by
  obtain ⟨hx, hb, hml, hown, hr, hlocks, hT⟩ := id C.1
  obtain ⟨hH1, hH2, hS, hAz⟩ := hI
  have hdis := C.2.2.2.2.2.1
  unfold LF19 at h
  obtain ⟨u1, eu1, h⟩ := zb_some h
  obtain ⟨r, S1, z1, e1, h⟩ := zb3_some h
  obtain ⟨u3, eu3, h⟩ := zb_some h
  have hbz := zbud_at eu3
  obtain ⟨u2, eu2, h⟩ := zb_some h
  obtain ⟨r2, S2, e2, h⟩ := zb2_some h
  split at h
  · next hr2 =>
    cases h
    refine lv_aload_n hx hb dL_law_826 rfl (lv_at hl 1 rfl) ?_
    refine lv_aload_n hx hb dL_law_827 rfl (lv_at hl 0 rfl) ?_
    refine lv_iload_n hx hb dL_law_828 rfl (lv_at hl 3 rfl) ?_
    refine lv_iconst (v := (1 : Int32)) hx hb dL_law_829 (by decide) ?_
    refine lv_iadd hx hb dL_law_830 ?_
    refine z_sld C hS (j := i + 1) (by rw [hx3]; exact nI_add i 1) (by omega) dL_law_831 ?_
    refine lv_aload_n hx hb dL_law_832 rfl (lv_at hl 0 rfl) ?_
    refine lv_iload_n hx hb dL_law_833 rfl (lv_at hl 3 rfl) ?_
    refine lv_iconst (v := (2 : Int32)) hx hb dL_law_834 (by decide) ?_
    refine lv_iadd hx hb dL_law_835 ?_
    refine z_sld C hS (j := i + 2) (by rw [hx3]; exact nI_add i 2) (by omega) dL_law_836 ?_
    refine lv_aload_n hx hb dL_law_837 rfl (lv_at hl 0 rfl) ?_
    refine lv_iload_n hx hb dL_law_838 rfl (lv_at hl 3 rfl) ?_
    refine lv_iconst (v := (3 : Int32)) hx hb dL_law_839 (by decide) ?_
    refine lv_iadd hx hb dL_law_840 ?_
    refine z_sld C hS (j := i + 3) (by rw [hx3]; exact nI_add i 3) (by omega) dL_law_841 ?_
    refine lv_aload_n hx hb dL_law_842 rfl (lv_at hl 0 rfl) ?_
    refine lv_iload_n hx hb dL_law_843 rfl (lv_at hl 3 rfl) ?_
    refine lv_iconst (v := (4 : Int32)) hx hb dL_law_844 (by decide) ?_
    refine lv_iadd hx hb dL_law_845 ?_
    refine z_sld C hS (j := i + 4) (by rw [hx3]; exact nI_add i 4) (by omega) dL_law_846 ?_
    refine z_cV2 (As := [.int (xs (i + 1)), .int (xs (i + 2)), .int (xs (i + 3)), .int (xs (i + 4))]) C.1 hl hH1 hH2 hS C.2.2.2.1 (fun q h1 h2 => hdis q h2 h1) mlL_94 eu1 (kX7_stable hAz e1) rfl rfl (Nat.le_of_ble_eq_true rfl) ⟨rfl, rfl, Nat.le_of_ble_eq_true rfl, Nat.le_of_ble_eq_true rfl⟩ ⟨by show q + (z' - z) ≤ 600000; omega, by show w + 200 * (z' - z) ≤ 7302250; omega⟩ dL_law_847 (fun H locs hH1 hH2 hS hzz => ?_)
    refine lv_aload_n hx hb dL_law_850 rfl (lv_at hl 2 rfl) ?_
    refine lv_aload_n hx hb dL_law_851 rfl (lv_at hl 0 rfl) ?_
    refine lv_iload_n hx hb dL_law_852 rfl (lv_at hl 3 rfl) ?_
    refine lv_iconst (v := (1 : Int32)) hx hb dL_law_853 (by decide) ?_
    refine lv_iadd hx hb dL_law_854 ?_
    refine z_sld C hS (j := i + 1) (by rw [hx3]; exact nI_add i 1) (by omega) dL_law_855 ?_
    refine lv_aload_n hx hb dL_law_856 rfl (lv_at hl 0 rfl) ?_
    refine lv_iload_n hx hb dL_law_857 rfl (lv_at hl 3 rfl) ?_
    refine lv_iconst (v := (2 : Int32)) hx hb dL_law_858 (by decide) ?_
    refine lv_iadd hx hb dL_law_859 ?_
    refine z_sld C hS (j := i + 2) (by rw [hx3]; exact nI_add i 2) (by omega) dL_law_860 ?_
    refine lv_aload_n hx hb dL_law_861 rfl (lv_at hl 0 rfl) ?_
    refine lv_iload_n hx hb dL_law_862 rfl (lv_at hl 3 rfl) ?_
    refine lv_iconst (v := (3 : Int32)) hx hb dL_law_863 (by decide) ?_
    refine lv_iadd hx hb dL_law_864 ?_
    refine z_sld C hS (j := i + 3) (by rw [hx3]; exact nI_add i 3) (by omega) dL_law_865 ?_
    refine lv_aload_n hx hb dL_law_866 rfl (lv_at hl 0 rfl) ?_
    refine lv_iload_n hx hb dL_law_867 rfl (lv_at hl 3 rfl) ?_
    refine lv_iconst (v := (4 : Int32)) hx hb dL_law_868 (by decide) ?_
    refine lv_iadd hx hb dL_law_869 ?_
    refine z_sld C hS (j := i + 4) (by rw [hx3]; exact nI_add i 4) (by omega) dL_law_870 ?_
    refine z_cV2 (As := [.int (xs (i + 1)), .int (xs (i + 2)), .int (xs (i + 3)), .int (xs (i + 4))]) C.1 hl hH2 hH1 hS C.2.2.2.2.1 hdis mlL_98 eu2 (kX8_stable e2) rfl rfl (Nat.le_of_ble_eq_true rfl) ⟨rfl, rfl, Nat.le_of_ble_eq_true rfl, Nat.le_of_ble_eq_true rfl⟩ ⟨by show q + (z' - z) + 0 ≤ 600000; omega, by show w + 200 * (z' - z) + 0 ≤ 7302250; omega⟩ dL_law_871 (fun H locs hH2 hH1 hS hzz2 => ?_)
    refine lv_icmp_eq (tgt := 1189) hx hb dL_law_874 (by decide) (fun _ => ?_) (fun c9 => absurd (hr2) c9)
    exact W.widen (show q + (z' - z) + 0 ≤ q + MC by omega) (show w + 200 * (z' - z) + 0 ≤ w + MS by omega) (kk _ _ _ ⟨hH1, hH2, hS, fun q h => hAz q (Nat.le_trans hzz h)⟩ hl)
  · cases h
set_option maxRecDepth 100000 in
set_option maxHeartbeats 4000000 in
theorem wL_20 (C : zL D cy Ac Am p s m meth c b L xs) {N MC MS bc bm i : Nat} {Sc Sm Sc' Sm' : zS} {z z' q w : Nat} {H : Heap} {locs : List Loc} {ls : Array Slot} {x3 : Int32} (hx3 : x3 = nI i) (hi : i + 4 < L) (hq : q + MC ≤ 600000) (hw : w + MS ≤ 7302250) (hI : zI D cy Ac Am s Sc Sm z H locs) (hl : lv_has ls 4 [(0, .ref b), (1, .ref bc), (2, .ref bm), (3, .int x3)]) (h : LF20 N MC MS bc bm (xs (i + 1)) (xs (i + 2)) (xs (i + 3)) (xs (i + 4)) Sc Sm z = some (Sc', Sm', z')) (kk : ∀ (H : Heap) (locs : List Loc) (ls : Array Slot), zI D cy Ac Am s Sc' Sm' z' H locs → lv_has ls 4 [(0, .ref b), (1, .ref bc), (2, .ref bm), (3, .int x3)] → W p l e room_1 s m #[Value.ref b] below meth c H locs (q + MC) (w + MS) Q (F0 m 1189 ls [])) : W p l e room_1 s m #[Value.ref b] below meth c H locs q w Q (F0 m 879 ls []) := by
  obtain ⟨hx, hb, hml, hown, hr, hlocks, hT⟩ := id C.1
  obtain ⟨hH1, hH2, hS, hAz⟩ := hI
  have hdis := C.2.2.2.2.2.1
  unfold LF20 at h
  obtain ⟨u1, eu1, h⟩ := zb_some h
  obtain ⟨r, S1, z1, e1, h⟩ := zb3_some h
  obtain ⟨u3, eu3, h⟩ := zb_some h
  have hbz := zbud_at eu3
  obtain ⟨u2, eu2, h⟩ := zb_some h
  obtain ⟨r2, S2, e2, h⟩ := zb2_some h
  split at h
  · next hr2 =>
    cases h
    refine lv_aload_n hx hb dL_law_879 rfl (lv_at hl 1 rfl) ?_
    refine lv_aload_n hx hb dL_law_880 rfl (lv_at hl 0 rfl) ?_
    refine lv_iload_n hx hb dL_law_881 rfl (lv_at hl 3 rfl) ?_
    refine lv_iconst (v := (1 : Int32)) hx hb dL_law_882 (by decide) ?_
    refine lv_iadd hx hb dL_law_883 ?_
    refine z_sld C hS (j := i + 1) (by rw [hx3]; exact nI_add i 1) (by omega) dL_law_884 ?_
    refine lv_aload_n hx hb dL_law_885 rfl (lv_at hl 0 rfl) ?_
    refine lv_iload_n hx hb dL_law_886 rfl (lv_at hl 3 rfl) ?_
    refine lv_iconst (v := (2 : Int32)) hx hb dL_law_887 (by decide) ?_
    refine lv_iadd hx hb dL_law_888 ?_
    refine z_sld C hS (j := i + 2) (by rw [hx3]; exact nI_add i 2) (by omega) dL_law_889 ?_
    refine lv_aload_n hx hb dL_law_890 rfl (lv_at hl 0 rfl) ?_
    refine lv_iload_n hx hb dL_law_891 rfl (lv_at hl 3 rfl) ?_
    refine lv_iconst (v := (3 : Int32)) hx hb dL_law_892 (by decide) ?_
    refine lv_iadd hx hb dL_law_893 ?_
    refine z_sld C hS (j := i + 3) (by rw [hx3]; exact nI_add i 3) (by omega) dL_law_894 ?_
    refine z_cV2 (As := [.int (xs (i + 1)), .int (xs (i + 2)), .int (xs (i + 3))]) C.1 hl hH1 hH2 hS C.2.2.2.1 (fun q h1 h2 => hdis q h2 h1) mlL_99 eu1 (kX7_breaks hAz e1) rfl rfl (Nat.le_of_ble_eq_true rfl) ⟨rfl, rfl, Nat.le_of_ble_eq_true rfl, Nat.le_of_ble_eq_true rfl⟩ ⟨by show q + (z' - z) ≤ 600000; omega, by show w + 200 * (z' - z) ≤ 7302250; omega⟩ dL_law_895 (fun H locs hH1 hH2 hS hzz => ?_)
    refine lv_aload_n hx hb dL_law_898 rfl (lv_at hl 2 rfl) ?_
    refine lv_aload_n hx hb dL_law_899 rfl (lv_at hl 0 rfl) ?_
    refine lv_iload_n hx hb dL_law_900 rfl (lv_at hl 3 rfl) ?_
    refine lv_iconst (v := (1 : Int32)) hx hb dL_law_901 (by decide) ?_
    refine lv_iadd hx hb dL_law_902 ?_
    refine z_sld C hS (j := i + 1) (by rw [hx3]; exact nI_add i 1) (by omega) dL_law_903 ?_
    refine lv_aload_n hx hb dL_law_904 rfl (lv_at hl 0 rfl) ?_
    refine lv_iload_n hx hb dL_law_905 rfl (lv_at hl 3 rfl) ?_
    refine lv_iconst (v := (2 : Int32)) hx hb dL_law_906 (by decide) ?_
    refine lv_iadd hx hb dL_law_907 ?_
    refine z_sld C hS (j := i + 2) (by rw [hx3]; exact nI_add i 2) (by omega) dL_law_908 ?_
    refine lv_aload_n hx hb dL_law_909 rfl (lv_at hl 0 rfl) ?_
    refine lv_iload_n hx hb dL_law_910 rfl (lv_at hl 3 rfl) ?_
    refine lv_iconst (v := (3 : Int32)) hx hb dL_law_911 (by decide) ?_
    refine lv_iadd hx hb dL_law_912 ?_
    refine z_sld C hS (j := i + 3) (by rw [hx3]; exact nI_add i 3) (by omega) dL_law_913 ?_
    refine z_cV2 (As := [.int (xs (i + 1)), .int (xs (i + 2)), .int (xs (i + 3))]) C.1 hl hH2 hH1 hS C.2.2.2.2.1 hdis mlL_102 eu2 (kX8_breaks e2) rfl rfl (Nat.le_of_ble_eq_true rfl) ⟨rfl, rfl, Nat.le_of_ble_eq_true rfl, Nat.le_of_ble_eq_true rfl⟩ ⟨by show q + (z' - z) + 0 ≤ 600000; omega, by show w + 200 * (z' - z) + 0 ≤ 7302250; omega⟩ dL_law_914 (fun H locs hH2 hH1 hS hzz2 => ?_)
    refine lv_icmp_eq (tgt := 1189) hx hb dL_law_917 (by decide) (fun _ => ?_) (fun c9 => absurd (hr2) c9)
    exact W.widen (show q + (z' - z) + 0 ≤ q + MC by omega) (show w + 200 * (z' - z) + 0 ≤ w + MS by omega) (kk _ _ _ ⟨hH1, hH2, hS, fun q h => hAz q (Nat.le_trans hzz h)⟩ hl)
  · cases h
set_option maxRecDepth 100000 in
set_option maxHeartbeats 4000000 in
theorem wL_21 (C : zL D cy Ac Am p s m meth c b L xs) {N MC MS bc bm i : Nat} {Sc Sm Sc' Sm' : zS} {z z' q w : Nat} {H : Heap} {locs : List Loc} {ls : Array Slot} {x3 : Int32} (hx3 : x3 = nI i) (hi : i + 4 < L) (hq : q + MC ≤ 600000) (hw : w + MS ≤ 7302250) (hI : zI D cy Ac Am s Sc Sm z H locs) (hl : lv_has ls 4 [(0, .ref b), (1, .ref bc), (2, .ref bm), (3, .int x3)]) (h : LF21 N MC MS bc bm (xs (i + 1)) (xs (i + 2)) (xs (i + 3)) (xs (i + 4)) Sc Sm z = some (Sc', Sm', z')) (kk : ∀ (H : Heap) (locs : List Loc) (ls : Array Slot), zI D cy Ac Am s Sc' Sm' z' H locs → lv_has ls 4 [(0, .ref b), (1, .ref bc), (2, .ref bm), (3, .int x3)] → W p l e room_1 s m #[Value.ref b] below meth c H locs (q + MC) (w + MS) Q (F0 m 1189 ls [])) : W p l e room_1 s m #[Value.ref b] below meth c H locs q w Q (F0 m 922 ls []) := by
  obtain ⟨hx, hb, hml, hown, hr, hlocks, hT⟩ := id C.1
  obtain ⟨hH1, hH2, hS, hAz⟩ := hI
  have hdis := C.2.2.2.2.2.1
  unfold LF21 at h
  obtain ⟨u1, eu1, h⟩ := zb_some h
  obtain ⟨r, S1, z1, e1, h⟩ := zb3_some h
  obtain ⟨u3, eu3, h⟩ := zb_some h
  have hbz := zbud_at eu3
  obtain ⟨u2, eu2, h⟩ := zb_some h
  obtain ⟨r2, S2, e2, h⟩ := zb2_some h
  split at h
  · next hr2 =>
    cases h
    refine lv_aload_n hx hb dL_law_922 rfl (lv_at hl 1 rfl) ?_
    refine lv_aload_n hx hb dL_law_923 rfl (lv_at hl 0 rfl) ?_
    refine lv_iload_n hx hb dL_law_924 rfl (lv_at hl 3 rfl) ?_
    refine lv_iconst (v := (1 : Int32)) hx hb dL_law_925 (by decide) ?_
    refine lv_iadd hx hb dL_law_926 ?_
    refine z_sld C hS (j := i + 1) (by rw [hx3]; exact nI_add i 1) (by omega) dL_law_927 ?_
    refine lv_aload_n hx hb dL_law_928 rfl (lv_at hl 0 rfl) ?_
    refine lv_iload_n hx hb dL_law_929 rfl (lv_at hl 3 rfl) ?_
    refine lv_iconst (v := (2 : Int32)) hx hb dL_law_930 (by decide) ?_
    refine lv_iadd hx hb dL_law_931 ?_
    refine z_sld C hS (j := i + 2) (by rw [hx3]; exact nI_add i 2) (by omega) dL_law_932 ?_
    refine z_cV2 (As := [.int (xs (i + 1)), .int (xs (i + 2))]) C.1 hl hH1 hH2 hS C.2.2.2.1 (fun q h1 h2 => hdis q h2 h1) mlL_103 eu1 (kX7_rooms hAz e1) rfl rfl (Nat.le_of_ble_eq_true rfl) ⟨rfl, rfl, Nat.le_of_ble_eq_true rfl, Nat.le_of_ble_eq_true rfl⟩ ⟨by show q + (z' - z) ≤ 600000; omega, by show w + 200 * (z' - z) ≤ 7302250; omega⟩ dL_law_933 (fun H locs hH1 hH2 hS hzz => ?_)
    refine lv_aload_n hx hb dL_law_936 rfl (lv_at hl 2 rfl) ?_
    refine lv_aload_n hx hb dL_law_937 rfl (lv_at hl 0 rfl) ?_
    refine lv_iload_n hx hb dL_law_938 rfl (lv_at hl 3 rfl) ?_
    refine lv_iconst (v := (1 : Int32)) hx hb dL_law_939 (by decide) ?_
    refine lv_iadd hx hb dL_law_940 ?_
    refine z_sld C hS (j := i + 1) (by rw [hx3]; exact nI_add i 1) (by omega) dL_law_941 ?_
    refine lv_aload_n hx hb dL_law_942 rfl (lv_at hl 0 rfl) ?_
    refine lv_iload_n hx hb dL_law_943 rfl (lv_at hl 3 rfl) ?_
    refine lv_iconst (v := (2 : Int32)) hx hb dL_law_944 (by decide) ?_
    refine lv_iadd hx hb dL_law_945 ?_
    refine z_sld C hS (j := i + 2) (by rw [hx3]; exact nI_add i 2) (by omega) dL_law_946 ?_
    refine z_cV2 (As := [.int (xs (i + 1)), .int (xs (i + 2))]) C.1 hl hH2 hH1 hS C.2.2.2.2.1 hdis mlL_106 eu2 (kX8_rooms e2) rfl rfl (Nat.le_of_ble_eq_true rfl) ⟨rfl, rfl, Nat.le_of_ble_eq_true rfl, Nat.le_of_ble_eq_true rfl⟩ ⟨by show q + (z' - z) + 0 ≤ 600000; omega, by show w + 200 * (z' - z) + 0 ≤ 7302250; omega⟩ dL_law_947 (fun H locs hH2 hH1 hS hzz2 => ?_)
    refine lv_icmp_eq (tgt := 1189) hx hb dL_law_950 (by decide) (fun _ => ?_) (fun c9 => absurd (hr2) c9)
    exact W.widen (show q + (z' - z) + 0 ≤ q + MC by omega) (show w + 200 * (z' - z) + 0 ≤ w + MS by omega) (kk _ _ _ ⟨hH1, hH2, hS, fun q h => hAz q (Nat.le_trans hzz h)⟩ hl)
  · cases h
set_option maxRecDepth 100000 in
set_option maxHeartbeats 4000000 in
theorem wL_22 (C : zL D cy Ac Am p s m meth c b L xs) {N MC MS bc bm i : Nat} {Sc Sm Sc' Sm' : zS} {z z' q w : Nat} {H : Heap} {locs : List Loc} {ls : Array Slot} {x3 : Int32} (hx3 : x3 = nI i) (hi : i + 4 < L) (hq : q + MC ≤ 600000) (hw : w + MS ≤ 7302250) (hI : zI D cy Ac Am s Sc Sm z H locs) (hl : lv_has ls 4 [(0, .ref b), (1, .ref bc), (2, .ref bm), (3, .int x3)]) (h : LF22 N MC MS bc bm (xs (i + 1)) (xs (i + 2)) (xs (i + 3)) (xs (i + 4)) Sc Sm z = some (Sc', Sm', z')) (kk : ∀ (H : Heap) (locs : List Loc) (ls : Array Slot), zI D cy Ac Am s Sc' Sm' z' H locs → lv_has ls 4 [(0, .ref b), (1, .ref bc), (2, .ref bm), (3, .int x3)] → W p l e room_1 s m #[Value.ref b] below meth c H locs (q + MC) (w + MS) Q (F0 m 1189 ls [])) : W p l e room_1 s m #[Value.ref b] below meth c H locs q w Q (F0 m 955 ls []) := by
  obtain ⟨hx, hb, hml, hown, hr, hlocks, hT⟩ := id C.1
  obtain ⟨hH1, hH2, hS, hAz⟩ := hI
  have hdis := C.2.2.2.2.2.1
  unfold LF22 at h
  obtain ⟨u1, eu1, h⟩ := zb_some h
  obtain ⟨r, S1, e1, h⟩ := zb2_some h
  obtain ⟨u2, eu2, h⟩ := zb_some h
  obtain ⟨r2, S2, e2, h⟩ := zb2_some h
  split at h
  · next hr2 =>
    cases h
    refine lv_aload_n hx hb dL_law_955 rfl (lv_at hl 1 rfl) ?_
    refine lv_aload_n hx hb dL_law_956 rfl (lv_at hl 0 rfl) ?_
    refine lv_iload_n hx hb dL_law_957 rfl (lv_at hl 3 rfl) ?_
    refine lv_iconst (v := (1 : Int32)) hx hb dL_law_958 (by decide) ?_
    refine lv_iadd hx hb dL_law_959 ?_
    refine z_sld C hS (j := i + 1) (by rw [hx3]; exact nI_add i 1) (by omega) dL_law_960 ?_
    refine lv_aload_n hx hb dL_law_961 rfl (lv_at hl 0 rfl) ?_
    refine lv_iload_n hx hb dL_law_962 rfl (lv_at hl 3 rfl) ?_
    refine lv_iconst (v := (2 : Int32)) hx hb dL_law_963 (by decide) ?_
    refine lv_iadd hx hb dL_law_964 ?_
    refine z_sld C hS (j := i + 2) (by rw [hx3]; exact nI_add i 2) (by omega) dL_law_965 ?_
    refine lv_aload_n hx hb dL_law_966 rfl (lv_at hl 0 rfl) ?_
    refine lv_iload_n hx hb dL_law_967 rfl (lv_at hl 3 rfl) ?_
    refine lv_iconst (v := (3 : Int32)) hx hb dL_law_968 (by decide) ?_
    refine lv_iadd hx hb dL_law_969 ?_
    refine z_sld C hS (j := i + 3) (by rw [hx3]; exact nI_add i 3) (by omega) dL_law_970 ?_
    refine z_cV2 (As := [.int (xs (i + 1)), .int (xs (i + 2)), .int (xs (i + 3))]) C.1 hl hH1 hH2 hS C.2.2.2.1 (fun q h1 h2 => hdis q h2 h1) mlL_107 eu1 (kX7_maker e1) rfl rfl (Nat.le_of_ble_eq_true rfl) ⟨rfl, rfl, Nat.le_of_ble_eq_true rfl, Nat.le_of_ble_eq_true rfl⟩ ⟨by show q + 0 ≤ 600000; omega, by show w + 0 ≤ 7302250; omega⟩ dL_law_971 (fun H locs hH1 hH2 hS hzz => ?_)
    refine lv_aload_n hx hb dL_law_974 rfl (lv_at hl 2 rfl) ?_
    refine lv_aload_n hx hb dL_law_975 rfl (lv_at hl 0 rfl) ?_
    refine lv_iload_n hx hb dL_law_976 rfl (lv_at hl 3 rfl) ?_
    refine lv_iconst (v := (1 : Int32)) hx hb dL_law_977 (by decide) ?_
    refine lv_iadd hx hb dL_law_978 ?_
    refine z_sld C hS (j := i + 1) (by rw [hx3]; exact nI_add i 1) (by omega) dL_law_979 ?_
    refine lv_aload_n hx hb dL_law_980 rfl (lv_at hl 0 rfl) ?_
    refine lv_iload_n hx hb dL_law_981 rfl (lv_at hl 3 rfl) ?_
    refine lv_iconst (v := (2 : Int32)) hx hb dL_law_982 (by decide) ?_
    refine lv_iadd hx hb dL_law_983 ?_
    refine z_sld C hS (j := i + 2) (by rw [hx3]; exact nI_add i 2) (by omega) dL_law_984 ?_
    refine lv_aload_n hx hb dL_law_985 rfl (lv_at hl 0 rfl) ?_
    refine lv_iload_n hx hb dL_law_986 rfl (lv_at hl 3 rfl) ?_
    refine lv_iconst (v := (3 : Int32)) hx hb dL_law_987 (by decide) ?_
    refine lv_iadd hx hb dL_law_988 ?_
    refine z_sld C hS (j := i + 3) (by rw [hx3]; exact nI_add i 3) (by omega) dL_law_989 ?_
    refine z_cV2 (As := [.int (xs (i + 1)), .int (xs (i + 2)), .int (xs (i + 3))]) C.1 hl hH2 hH1 hS C.2.2.2.2.1 hdis mlL_110 eu2 (kX8_maker e2) rfl rfl (Nat.le_of_ble_eq_true rfl) ⟨rfl, rfl, Nat.le_of_ble_eq_true rfl, Nat.le_of_ble_eq_true rfl⟩ ⟨by show q + 0 + 0 ≤ 600000; omega, by show w + 0 + 0 ≤ 7302250; omega⟩ dL_law_990 (fun H locs hH2 hH1 hS hzz2 => ?_)
    refine lv_icmp_eq (tgt := 1189) hx hb dL_law_993 (by decide) (fun _ => ?_) (fun c9 => absurd (hr2) c9)
    exact W.widen (show q + 0 + 0 ≤ q + MC by omega) (show w + 0 + 0 ≤ w + MS by omega) (kk _ _ _ ⟨hH1, hH2, hS, hAz⟩ hl)
  · cases h
set_option maxRecDepth 100000 in
set_option maxHeartbeats 4000000 in
theorem wL_23 (C : zL D cy Ac Am p s m meth c b L xs) {N MC MS bc bm i : Nat} {Sc Sm Sc' Sm' : zS} {z z' q w : Nat} {H : Heap} {locs : List Loc} {ls : Array Slot} {x3 : Int32} (hx3 : x3 = nI i) (hi : i + 4 < L) (hq : q + MC ≤ 600000) (hw : w + MS ≤ 7302250) (hI : zI D cy Ac Am s Sc Sm z H locs) (hl : lv_has ls 4 [(0, .ref b), (1, .ref bc), (2, .ref bm), (3, .int x3)]) (h : LF23 N MC MS bc bm (xs (i + 1)) (xs (i + 2)) (xs (i + 3)) (xs (i + 4)) Sc Sm z = some (Sc', Sm', z')) (kk : ∀ (H : Heap) (locs : List Loc) (ls : Array Slot), zI D cy Ac Am s Sc' Sm' z' H locs → lv_has ls 4 [(0, .ref b), (1, .ref bc), (2, .ref bm), (3, .int x3)] → W p l e room_1 s m #[Value.ref b] below meth c H locs (q + MC) (w + MS) Q (F0 m 1189 ls [])) : W p l e room_1 s m #[Value.ref b] below meth c H locs q w Q (F0 m 998 ls []) := by
  obtain ⟨hx, hb, hml, hown, hr, hlocks, hT⟩ := id C.1
  obtain ⟨hH1, hH2, hS, hAz⟩ := hI
  have hdis := C.2.2.2.2.2.1
  unfold LF23 at h
  obtain ⟨u1, eu1, h⟩ := zb_some h
  obtain ⟨r, S1, e1, h⟩ := zb2_some h
  obtain ⟨u2, eu2, h⟩ := zb_some h
  obtain ⟨r2, S2, e2, h⟩ := zb2_some h
  split at h
  · next hr2 =>
    cases h
    refine lv_aload_n hx hb dL_law_998 rfl (lv_at hl 1 rfl) ?_
    refine lv_aload_n hx hb dL_law_999 rfl (lv_at hl 0 rfl) ?_
    refine lv_iload_n hx hb dL_law_1000 rfl (lv_at hl 3 rfl) ?_
    refine lv_iconst (v := (1 : Int32)) hx hb dL_law_1001 (by decide) ?_
    refine lv_iadd hx hb dL_law_1002 ?_
    refine z_sld C hS (j := i + 1) (by rw [hx3]; exact nI_add i 1) (by omega) dL_law_1003 ?_
    refine z_cV2 (As := [.int (xs (i + 1))]) C.1 hl hH1 hH2 hS C.2.2.2.1 (fun q h1 h2 => hdis q h2 h1) mlL_111 eu1 (kX7_down e1) rfl rfl (Nat.le_of_ble_eq_true rfl) ⟨rfl, rfl, Nat.le_of_ble_eq_true rfl, Nat.le_of_ble_eq_true rfl⟩ ⟨by show q + 0 ≤ 600000; omega, by show w + 0 ≤ 7302250; omega⟩ dL_law_1004 (fun H locs hH1 hH2 hS hzz => ?_)
    refine lv_aload_n hx hb dL_law_1007 rfl (lv_at hl 2 rfl) ?_
    refine lv_aload_n hx hb dL_law_1008 rfl (lv_at hl 0 rfl) ?_
    refine lv_iload_n hx hb dL_law_1009 rfl (lv_at hl 3 rfl) ?_
    refine lv_iconst (v := (1 : Int32)) hx hb dL_law_1010 (by decide) ?_
    refine lv_iadd hx hb dL_law_1011 ?_
    refine z_sld C hS (j := i + 1) (by rw [hx3]; exact nI_add i 1) (by omega) dL_law_1012 ?_
    refine z_cV2 (As := [.int (xs (i + 1))]) C.1 hl hH2 hH1 hS C.2.2.2.2.1 hdis mlL_114 eu2 (kX8_down e2) rfl rfl (Nat.le_of_ble_eq_true rfl) ⟨rfl, rfl, Nat.le_of_ble_eq_true rfl, Nat.le_of_ble_eq_true rfl⟩ ⟨by show q + 0 + 0 ≤ 600000; omega, by show w + 0 + 0 ≤ 7302250; omega⟩ dL_law_1013 (fun H locs hH2 hH1 hS hzz2 => ?_)
    refine lv_icmp_eq (tgt := 1189) hx hb dL_law_1016 (by decide) (fun _ => ?_) (fun c9 => absurd (hr2) c9)
    exact W.widen (show q + 0 + 0 ≤ q + MC by omega) (show w + 0 + 0 ≤ w + MS by omega) (kk _ _ _ ⟨hH1, hH2, hS, hAz⟩ hl)
  · cases h
set_option maxRecDepth 100000 in
set_option maxHeartbeats 4000000 in
theorem wL_24 (C : zL D cy Ac Am p s m meth c b L xs) {N MC MS bc bm i : Nat} {Sc Sm Sc' Sm' : zS} {z z' q w : Nat} {H : Heap} {locs : List Loc} {ls : Array Slot} {x3 : Int32} (hx3 : x3 = nI i) (hi : i + 4 < L) (hq : q + MC ≤ 600000) (hw : w + MS ≤ 7302250) (hI : zI D cy Ac Am s Sc Sm z H locs) (hl : lv_has ls 4 [(0, .ref b), (1, .ref bc), (2, .ref bm), (3, .int x3)]) (h : LF24 N MC MS bc bm (xs (i + 1)) (xs (i + 2)) (xs (i + 3)) (xs (i + 4)) Sc Sm z = some (Sc', Sm', z')) (kk : ∀ (H : Heap) (locs : List Loc) (ls : Array Slot), zI D cy Ac Am s Sc' Sm' z' H locs → lv_has ls 4 [(0, .ref b), (1, .ref bc), (2, .ref bm), (3, .int x3)] → W p l e room_1 s m #[Value.ref b] below meth c H locs (q + MC) (w + MS) Q (F0 m 1189 ls [])) : W p l e room_1 s m #[Value.ref b] below meth c H locs q w Q (F0 m 1021 ls []) := by
  obtain ⟨hx, hb, hml, hown, hr, hlocks, hT⟩ := id C.1
  obtain ⟨hH1, hH2, hS, hAz⟩ := hI
  have hdis := C.2.2.2.2.2.1
  unfold LF24 at h
  obtain ⟨u1, eu1, h⟩ := zb_some h
  obtain ⟨r, S1, e1, h⟩ := zb2_some h
  obtain ⟨u2, eu2, h⟩ := zb_some h
  obtain ⟨r2, S2, e2, h⟩ := zb2_some h
  split at h
  · next hr2 =>
    cases h
    refine lv_aload_n hx hb dL_law_1021 rfl (lv_at hl 1 rfl) ?_
    refine lv_aload_n hx hb dL_law_1022 rfl (lv_at hl 0 rfl) ?_
    refine lv_iload_n hx hb dL_law_1023 rfl (lv_at hl 3 rfl) ?_
    refine lv_iconst (v := (1 : Int32)) hx hb dL_law_1024 (by decide) ?_
    refine lv_iadd hx hb dL_law_1025 ?_
    refine z_sld C hS (j := i + 1) (by rw [hx3]; exact nI_add i 1) (by omega) dL_law_1026 ?_
    refine lv_aload_n hx hb dL_law_1027 rfl (lv_at hl 0 rfl) ?_
    refine lv_iload_n hx hb dL_law_1028 rfl (lv_at hl 3 rfl) ?_
    refine lv_iconst (v := (2 : Int32)) hx hb dL_law_1029 (by decide) ?_
    refine lv_iadd hx hb dL_law_1030 ?_
    refine z_sld C hS (j := i + 2) (by rw [hx3]; exact nI_add i 2) (by omega) dL_law_1031 ?_
    refine z_cV2 (As := [.int (xs (i + 1)), .int (xs (i + 2))]) C.1 hl hH1 hH2 hS C.2.2.2.1 (fun q h1 h2 => hdis q h2 h1) mlL_115 eu1 (kX7_ring e1) rfl rfl (Nat.le_of_ble_eq_true rfl) ⟨rfl, rfl, Nat.le_of_ble_eq_true rfl, Nat.le_of_ble_eq_true rfl⟩ ⟨by show q + 0 ≤ 600000; omega, by show w + 0 ≤ 7302250; omega⟩ dL_law_1032 (fun H locs hH1 hH2 hS hzz => ?_)
    refine lv_aload_n hx hb dL_law_1035 rfl (lv_at hl 2 rfl) ?_
    refine lv_aload_n hx hb dL_law_1036 rfl (lv_at hl 0 rfl) ?_
    refine lv_iload_n hx hb dL_law_1037 rfl (lv_at hl 3 rfl) ?_
    refine lv_iconst (v := (1 : Int32)) hx hb dL_law_1038 (by decide) ?_
    refine lv_iadd hx hb dL_law_1039 ?_
    refine z_sld C hS (j := i + 1) (by rw [hx3]; exact nI_add i 1) (by omega) dL_law_1040 ?_
    refine lv_aload_n hx hb dL_law_1041 rfl (lv_at hl 0 rfl) ?_
    refine lv_iload_n hx hb dL_law_1042 rfl (lv_at hl 3 rfl) ?_
    refine lv_iconst (v := (2 : Int32)) hx hb dL_law_1043 (by decide) ?_
    refine lv_iadd hx hb dL_law_1044 ?_
    refine z_sld C hS (j := i + 2) (by rw [hx3]; exact nI_add i 2) (by omega) dL_law_1045 ?_
    refine z_cV2 (As := [.int (xs (i + 1)), .int (xs (i + 2))]) C.1 hl hH2 hH1 hS C.2.2.2.2.1 hdis mlL_118 eu2 (kX8_ring e2) rfl rfl (Nat.le_of_ble_eq_true rfl) ⟨rfl, rfl, Nat.le_of_ble_eq_true rfl, Nat.le_of_ble_eq_true rfl⟩ ⟨by show q + 0 + 0 ≤ 600000; omega, by show w + 0 + 0 ≤ 7302250; omega⟩ dL_law_1046 (fun H locs hH2 hH1 hS hzz2 => ?_)
    refine lv_icmp_eq (tgt := 1189) hx hb dL_law_1049 (by decide) (fun _ => ?_) (fun c9 => absurd (hr2) c9)
    exact W.widen (show q + 0 + 0 ≤ q + MC by omega) (show w + 0 + 0 ≤ w + MS by omega) (kk _ _ _ ⟨hH1, hH2, hS, hAz⟩ hl)
  · cases h
set_option maxRecDepth 100000 in
set_option maxHeartbeats 4000000 in
theorem wL_25 (C : zL D cy Ac Am p s m meth c b L xs) {N MC MS bc bm i : Nat} {Sc Sm Sc' Sm' : zS} {z z' q w : Nat} {H : Heap} {locs : List Loc} {ls : Array Slot} {x3 : Int32} (hx3 : x3 = nI i) (hi : i + 4 < L) (hq : q + MC ≤ 600000) (hw : w + MS ≤ 7302250) (hI : zI D cy Ac Am s Sc Sm z H locs) (hl : lv_has ls 4 [(0, .ref b), (1, .ref bc), (2, .ref bm), (3, .int x3)]) (h : LF25 N MC MS bc bm (xs (i + 1)) (xs (i + 2)) (xs (i + 3)) (xs (i + 4)) Sc Sm z = some (Sc', Sm', z')) (kk : ∀ (H : Heap) (locs : List Loc) (ls : Array Slot), zI D cy Ac Am s Sc' Sm' z' H locs → lv_has ls 4 [(0, .ref b), (1, .ref bc), (2, .ref bm), (3, .int x3)] → W p l e room_1 s m #[Value.ref b] below meth c H locs (q + MC) (w + MS) Q (F0 m 1189 ls [])) : W p l e room_1 s m #[Value.ref b] below meth c H locs q w Q (F0 m 1054 ls []) := by
  obtain ⟨hx, hb, hml, hown, hr, hlocks, hT⟩ := id C.1
  obtain ⟨hH1, hH2, hS, hAz⟩ := hI
  have hdis := C.2.2.2.2.2.1
  unfold LF25 at h
  obtain ⟨u1, eu1, h⟩ := zb_some h
  obtain ⟨r, S1, e1, h⟩ := zb2_some h
  obtain ⟨u2, eu2, h⟩ := zb_some h
  obtain ⟨r2, S2, e2, h⟩ := zb2_some h
  split at h
  · next hr2 =>
    cases h
    refine lv_aload_n hx hb dL_law_1054 rfl (lv_at hl 1 rfl) ?_
    refine lv_aload_n hx hb dL_law_1055 rfl (lv_at hl 0 rfl) ?_
    refine lv_iload_n hx hb dL_law_1056 rfl (lv_at hl 3 rfl) ?_
    refine lv_iconst (v := (1 : Int32)) hx hb dL_law_1057 (by decide) ?_
    refine lv_iadd hx hb dL_law_1058 ?_
    refine z_sld C hS (j := i + 1) (by rw [hx3]; exact nI_add i 1) (by omega) dL_law_1059 ?_
    refine lv_aload_n hx hb dL_law_1060 rfl (lv_at hl 0 rfl) ?_
    refine lv_iload_n hx hb dL_law_1061 rfl (lv_at hl 3 rfl) ?_
    refine lv_iconst (v := (2 : Int32)) hx hb dL_law_1062 (by decide) ?_
    refine lv_iadd hx hb dL_law_1063 ?_
    refine z_sld C hS (j := i + 2) (by rw [hx3]; exact nI_add i 2) (by omega) dL_law_1064 ?_
    refine z_cV2 (As := [.int (xs (i + 1)), .int (xs (i + 2))]) C.1 hl hH1 hH2 hS C.2.2.2.1 (fun q h1 h2 => hdis q h2 h1) mlL_119 eu1 (kX7_needs e1) rfl rfl (Nat.le_of_ble_eq_true rfl) ⟨rfl, rfl, Nat.le_of_ble_eq_true rfl, Nat.le_of_ble_eq_true rfl⟩ ⟨by show q + 0 ≤ 600000; omega, by show w + 0 ≤ 7302250; omega⟩ dL_law_1065 (fun H locs hH1 hH2 hS hzz => ?_)
    refine lv_aload_n hx hb dL_law_1068 rfl (lv_at hl 2 rfl) ?_
    refine lv_aload_n hx hb dL_law_1069 rfl (lv_at hl 0 rfl) ?_
    refine lv_iload_n hx hb dL_law_1070 rfl (lv_at hl 3 rfl) ?_
    refine lv_iconst (v := (1 : Int32)) hx hb dL_law_1071 (by decide) ?_
    refine lv_iadd hx hb dL_law_1072 ?_
    refine z_sld C hS (j := i + 1) (by rw [hx3]; exact nI_add i 1) (by omega) dL_law_1073 ?_
    refine lv_aload_n hx hb dL_law_1074 rfl (lv_at hl 0 rfl) ?_
    refine lv_iload_n hx hb dL_law_1075 rfl (lv_at hl 3 rfl) ?_
    refine lv_iconst (v := (2 : Int32)) hx hb dL_law_1076 (by decide) ?_
    refine lv_iadd hx hb dL_law_1077 ?_
    refine z_sld C hS (j := i + 2) (by rw [hx3]; exact nI_add i 2) (by omega) dL_law_1078 ?_
    refine z_cV2 (As := [.int (xs (i + 1)), .int (xs (i + 2))]) C.1 hl hH2 hH1 hS C.2.2.2.2.1 hdis mlL_122 eu2 (kX8_needs e2) rfl rfl (Nat.le_of_ble_eq_true rfl) ⟨rfl, rfl, Nat.le_of_ble_eq_true rfl, Nat.le_of_ble_eq_true rfl⟩ ⟨by show q + 0 + 0 ≤ 600000; omega, by show w + 0 + 0 ≤ 7302250; omega⟩ dL_law_1079 (fun H locs hH2 hH1 hS hzz2 => ?_)
    refine lv_icmp_eq (tgt := 1189) hx hb dL_law_1082 (by decide) (fun _ => ?_) (fun c9 => absurd (hr2) c9)
    exact W.widen (show q + 0 + 0 ≤ q + MC by omega) (show w + 0 + 0 ≤ w + MS by omega) (kk _ _ _ ⟨hH1, hH2, hS, hAz⟩ hl)
  · cases h
set_option maxRecDepth 100000 in
set_option maxHeartbeats 4000000 in
theorem wL_26 (C : zL D cy Ac Am p s m meth c b L xs) {N MC MS bc bm i : Nat} {Sc Sm Sc' Sm' : zS} {z z' q w : Nat} {H : Heap} {locs : List Loc} {ls : Array Slot} {x3 : Int32} (hx3 : x3 = nI i) (hi : i + 4 < L) (hq : q + MC ≤ 600000) (hw : w + MS ≤ 7302250) (hI : zI D cy Ac Am s Sc Sm z H locs) (hl : lv_has ls 4 [(0, .ref b), (1, .ref bc), (2, .ref bm), (3, .int x3)]) (h : LF26 N MC MS bc bm (xs (i + 1)) (xs (i + 2)) (xs (i + 3)) (xs (i + 4)) Sc Sm z = some (Sc', Sm', z')) (kk : ∀ (H : Heap) (locs : List Loc) (ls : Array Slot), zI D cy Ac Am s Sc' Sm' z' H locs → lv_has ls 4 [(0, .ref b), (1, .ref bc), (2, .ref bm), (3, .int x3)] → W p l e room_1 s m #[Value.ref b] below meth c H locs (q + MC) (w + MS) Q (F0 m 1189 ls [])) : W p l e room_1 s m #[Value.ref b] below meth c H locs q w Q (F0 m 1087 ls []) := by
  obtain ⟨hx, hb, hml, hown, hr, hlocks, hT⟩ := id C.1
  obtain ⟨hH1, hH2, hS, hAz⟩ := hI
  have hdis := C.2.2.2.2.2.1
  unfold LF26 at h
  obtain ⟨u1, eu1, h⟩ := zb_some h
  obtain ⟨r, S1, e1, h⟩ := zb2_some h
  obtain ⟨u2, eu2, h⟩ := zb_some h
  obtain ⟨r2, S2, e2, h⟩ := zb2_some h
  split at h
  · next hr2 =>
    cases h
    refine lv_aload_n hx hb dL_law_1087 rfl (lv_at hl 1 rfl) ?_
    refine lv_aload_n hx hb dL_law_1088 rfl (lv_at hl 0 rfl) ?_
    refine lv_iload_n hx hb dL_law_1089 rfl (lv_at hl 3 rfl) ?_
    refine lv_iconst (v := (1 : Int32)) hx hb dL_law_1090 (by decide) ?_
    refine lv_iadd hx hb dL_law_1091 ?_
    refine z_sld C hS (j := i + 1) (by rw [hx3]; exact nI_add i 1) (by omega) dL_law_1092 ?_
    refine lv_aload_n hx hb dL_law_1093 rfl (lv_at hl 0 rfl) ?_
    refine lv_iload_n hx hb dL_law_1094 rfl (lv_at hl 3 rfl) ?_
    refine lv_iconst (v := (2 : Int32)) hx hb dL_law_1095 (by decide) ?_
    refine lv_iadd hx hb dL_law_1096 ?_
    refine z_sld C hS (j := i + 2) (by rw [hx3]; exact nI_add i 2) (by omega) dL_law_1097 ?_
    refine z_cV2 (As := [.int (xs (i + 1)), .int (xs (i + 2))]) C.1 hl hH1 hH2 hS C.2.2.2.1 (fun q h1 h2 => hdis q h2 h1) mlL_123 eu1 (kX7_forge e1) rfl rfl (Nat.le_of_ble_eq_true rfl) ⟨rfl, rfl, Nat.le_of_ble_eq_true rfl, Nat.le_of_ble_eq_true rfl⟩ ⟨by show q + 0 ≤ 600000; omega, by show w + 0 ≤ 7302250; omega⟩ dL_law_1098 (fun H locs hH1 hH2 hS hzz => ?_)
    refine lv_aload_n hx hb dL_law_1101 rfl (lv_at hl 2 rfl) ?_
    refine lv_aload_n hx hb dL_law_1102 rfl (lv_at hl 0 rfl) ?_
    refine lv_iload_n hx hb dL_law_1103 rfl (lv_at hl 3 rfl) ?_
    refine lv_iconst (v := (1 : Int32)) hx hb dL_law_1104 (by decide) ?_
    refine lv_iadd hx hb dL_law_1105 ?_
    refine z_sld C hS (j := i + 1) (by rw [hx3]; exact nI_add i 1) (by omega) dL_law_1106 ?_
    refine lv_aload_n hx hb dL_law_1107 rfl (lv_at hl 0 rfl) ?_
    refine lv_iload_n hx hb dL_law_1108 rfl (lv_at hl 3 rfl) ?_
    refine lv_iconst (v := (2 : Int32)) hx hb dL_law_1109 (by decide) ?_
    refine lv_iadd hx hb dL_law_1110 ?_
    refine z_sld C hS (j := i + 2) (by rw [hx3]; exact nI_add i 2) (by omega) dL_law_1111 ?_
    refine z_cV2 (As := [.int (xs (i + 1)), .int (xs (i + 2))]) C.1 hl hH2 hH1 hS C.2.2.2.2.1 hdis mlL_126 eu2 (kX8_forge e2) rfl rfl (Nat.le_of_ble_eq_true rfl) ⟨rfl, rfl, Nat.le_of_ble_eq_true rfl, Nat.le_of_ble_eq_true rfl⟩ ⟨by show q + 0 + 0 ≤ 600000; omega, by show w + 0 + 0 ≤ 7302250; omega⟩ dL_law_1112 (fun H locs hH2 hH1 hS hzz2 => ?_)
    refine lv_icmp_eq (tgt := 1189) hx hb dL_law_1115 (by decide) (fun _ => ?_) (fun c9 => absurd (hr2) c9)
    exact W.widen (show q + 0 + 0 ≤ q + MC by omega) (show w + 0 + 0 ≤ w + MS by omega) (kk _ _ _ ⟨hH1, hH2, hS, hAz⟩ hl)
  · cases h
set_option maxRecDepth 100000 in
set_option maxHeartbeats 4000000 in
theorem wL_27 (C : zL D cy Ac Am p s m meth c b L xs) {N MC MS bc bm i : Nat} {Sc Sm Sc' Sm' : zS} {z z' q w : Nat} {H : Heap} {locs : List Loc} {ls : Array Slot} {x3 : Int32} (hx3 : x3 = nI i) (hi : i + 4 < L) (hq : q + MC ≤ 600000) (hw : w + MS ≤ 7302250) (hI : zI D cy Ac Am s Sc Sm z H locs) (hl : lv_has ls 4 [(0, .ref b), (1, .ref bc), (2, .ref bm), (3, .int x3)]) (h : LF27 N MC MS bc bm (xs (i + 1)) (xs (i + 2)) (xs (i + 3)) (xs (i + 4)) Sc Sm z = some (Sc', Sm', z')) (kk : ∀ (H : Heap) (locs : List Loc) (ls : Array Slot), zI D cy Ac Am s Sc' Sm' z' H locs → lv_has ls 4 [(0, .ref b), (1, .ref bc), (2, .ref bm), (3, .int x3)] → W p l e room_1 s m #[Value.ref b] below meth c H locs (q + MC) (w + MS) Q (F0 m 1189 ls [])) : W p l e room_1 s m #[Value.ref b] below meth c H locs q w Q (F0 m 1120 ls []) := by
  obtain ⟨hx, hb, hml, hown, hr, hlocks, hT⟩ := id C.1
  obtain ⟨hH1, hH2, hS, hAz⟩ := hI
  have hdis := C.2.2.2.2.2.1
  unfold LF27 at h
  obtain ⟨u1, eu1, h⟩ := zb_some h
  obtain ⟨r, S1, e1, h⟩ := zb2_some h
  obtain ⟨u2, eu2, h⟩ := zb_some h
  obtain ⟨r2, S2, e2, h⟩ := zb2_some h
  split at h
  · next hr2 =>
    cases h
    refine lv_aload_n hx hb dL_law_1120 rfl (lv_at hl 1 rfl) ?_
    refine lv_aload_n hx hb dL_law_1121 rfl (lv_at hl 0 rfl) ?_
    refine lv_iload_n hx hb dL_law_1122 rfl (lv_at hl 3 rfl) ?_
    refine lv_iconst (v := (1 : Int32)) hx hb dL_law_1123 (by decide) ?_
    refine lv_iadd hx hb dL_law_1124 ?_
    refine z_sld C hS (j := i + 1) (by rw [hx3]; exact nI_add i 1) (by omega) dL_law_1125 ?_
    refine z_cV2 (As := [.int (xs (i + 1))]) C.1 hl hH1 hH2 hS C.2.2.2.1 (fun q h1 h2 => hdis q h2 h1) mlL_127 eu1 (kX7_trust e1) rfl rfl (Nat.le_of_ble_eq_true rfl) ⟨rfl, rfl, Nat.le_of_ble_eq_true rfl, Nat.le_of_ble_eq_true rfl⟩ ⟨by show q + 0 ≤ 600000; omega, by show w + 0 ≤ 7302250; omega⟩ dL_law_1126 (fun H locs hH1 hH2 hS hzz => ?_)
    refine lv_aload_n hx hb dL_law_1129 rfl (lv_at hl 2 rfl) ?_
    refine lv_aload_n hx hb dL_law_1130 rfl (lv_at hl 0 rfl) ?_
    refine lv_iload_n hx hb dL_law_1131 rfl (lv_at hl 3 rfl) ?_
    refine lv_iconst (v := (1 : Int32)) hx hb dL_law_1132 (by decide) ?_
    refine lv_iadd hx hb dL_law_1133 ?_
    refine z_sld C hS (j := i + 1) (by rw [hx3]; exact nI_add i 1) (by omega) dL_law_1134 ?_
    refine z_cV2 (As := [.int (xs (i + 1))]) C.1 hl hH2 hH1 hS C.2.2.2.2.1 hdis mlL_130 eu2 (kX8_trust e2) rfl rfl (Nat.le_of_ble_eq_true rfl) ⟨rfl, rfl, Nat.le_of_ble_eq_true rfl, Nat.le_of_ble_eq_true rfl⟩ ⟨by show q + 0 + 0 ≤ 600000; omega, by show w + 0 + 0 ≤ 7302250; omega⟩ dL_law_1135 (fun H locs hH2 hH1 hS hzz2 => ?_)
    refine lv_icmp_eq (tgt := 1189) hx hb dL_law_1138 (by decide) (fun _ => ?_) (fun c9 => absurd (hr2) c9)
    exact W.widen (show q + 0 + 0 ≤ q + MC by omega) (show w + 0 + 0 ≤ w + MS by omega) (kk _ _ _ ⟨hH1, hH2, hS, hAz⟩ hl)
  · cases h
set_option maxRecDepth 100000 in
set_option maxHeartbeats 4000000 in
theorem wL_28 (C : zL D cy Ac Am p s m meth c b L xs) {N MC MS bc bm i : Nat} {Sc Sm Sc' Sm' : zS} {z z' q w : Nat} {H : Heap} {locs : List Loc} {ls : Array Slot} {x3 : Int32} (hx3 : x3 = nI i) (hi : i + 4 < L) (hq : q + MC ≤ 600000) (hw : w + MS ≤ 7302250) (hI : zI D cy Ac Am s Sc Sm z H locs) (hl : lv_has ls 4 [(0, .ref b), (1, .ref bc), (2, .ref bm), (3, .int x3)]) (h : LF28 N MC MS bc bm (xs (i + 1)) (xs (i + 2)) (xs (i + 3)) (xs (i + 4)) Sc Sm z = some (Sc', Sm', z')) (kk : ∀ (H : Heap) (locs : List Loc) (ls : Array Slot), zI D cy Ac Am s Sc' Sm' z' H locs → lv_has ls 4 [(0, .ref b), (1, .ref bc), (2, .ref bm), (3, .int x3)] → W p l e room_1 s m #[Value.ref b] below meth c H locs (q + MC) (w + MS) Q (F0 m 1189 ls [])) : W p l e room_1 s m #[Value.ref b] below meth c H locs q w Q (F0 m 1143 ls []) := by
  obtain ⟨hx, hb, hml, hown, hr, hlocks, hT⟩ := id C.1
  obtain ⟨hH1, hH2, hS, hAz⟩ := hI
  have hdis := C.2.2.2.2.2.1
  unfold LF28 at h
  obtain ⟨u1, eu1, h⟩ := zb_some h
  obtain ⟨r, S1, e1, h⟩ := zb2_some h
  obtain ⟨u2, eu2, h⟩ := zb_some h
  obtain ⟨r2, S2, e2, h⟩ := zb2_some h
  split at h
  · next hr2 =>
    cases h
    refine lv_aload_n hx hb dL_law_1143 rfl (lv_at hl 1 rfl) ?_
    refine lv_aload_n hx hb dL_law_1144 rfl (lv_at hl 0 rfl) ?_
    refine lv_iload_n hx hb dL_law_1145 rfl (lv_at hl 3 rfl) ?_
    refine lv_iconst (v := (1 : Int32)) hx hb dL_law_1146 (by decide) ?_
    refine lv_iadd hx hb dL_law_1147 ?_
    refine z_sld C hS (j := i + 1) (by rw [hx3]; exact nI_add i 1) (by omega) dL_law_1148 ?_
    refine z_cV2 (As := [.int (xs (i + 1))]) C.1 hl hH1 hH2 hS C.2.2.2.1 (fun q h1 h2 => hdis q h2 h1) mlL_131 eu1 (kX7_heirs e1) rfl rfl (Nat.le_of_ble_eq_true rfl) ⟨rfl, rfl, Nat.le_of_ble_eq_true rfl, Nat.le_of_ble_eq_true rfl⟩ ⟨by show q + 0 ≤ 600000; omega, by show w + 0 ≤ 7302250; omega⟩ dL_law_1149 (fun H locs hH1 hH2 hS hzz => ?_)
    refine lv_aload_n hx hb dL_law_1152 rfl (lv_at hl 2 rfl) ?_
    refine lv_aload_n hx hb dL_law_1153 rfl (lv_at hl 0 rfl) ?_
    refine lv_iload_n hx hb dL_law_1154 rfl (lv_at hl 3 rfl) ?_
    refine lv_iconst (v := (1 : Int32)) hx hb dL_law_1155 (by decide) ?_
    refine lv_iadd hx hb dL_law_1156 ?_
    refine z_sld C hS (j := i + 1) (by rw [hx3]; exact nI_add i 1) (by omega) dL_law_1157 ?_
    refine z_cV2 (As := [.int (xs (i + 1))]) C.1 hl hH2 hH1 hS C.2.2.2.2.1 hdis mlL_134 eu2 (kX8_heirs e2) rfl rfl (Nat.le_of_ble_eq_true rfl) ⟨rfl, rfl, Nat.le_of_ble_eq_true rfl, Nat.le_of_ble_eq_true rfl⟩ ⟨by show q + 0 + 0 ≤ 600000; omega, by show w + 0 + 0 ≤ 7302250; omega⟩ dL_law_1158 (fun H locs hH2 hH1 hS hzz2 => ?_)
    refine lv_icmp_eq (tgt := 1189) hx hb dL_law_1161 (by decide) (fun _ => ?_) (fun c9 => absurd (hr2) c9)
    exact W.widen (show q + 0 + 0 ≤ q + MC by omega) (show w + 0 + 0 ≤ w + MS by omega) (kk _ _ _ ⟨hH1, hH2, hS, hAz⟩ hl)
  · cases h
set_option maxRecDepth 100000 in
set_option maxHeartbeats 4000000 in
theorem wL_29 (C : zL D cy Ac Am p s m meth c b L xs) {N MC MS bc bm i : Nat} {Sc Sm Sc' Sm' : zS} {z z' q w : Nat} {H : Heap} {locs : List Loc} {ls : Array Slot} {x3 : Int32} (hx3 : x3 = nI i) (hi : i + 4 < L) (hq : q + MC ≤ 600000) (hw : w + MS ≤ 7302250) (hI : zI D cy Ac Am s Sc Sm z H locs) (hl : lv_has ls 4 [(0, .ref b), (1, .ref bc), (2, .ref bm), (3, .int x3)]) (h : LF29 N MC MS bc bm (xs (i + 1)) (xs (i + 2)) (xs (i + 3)) (xs (i + 4)) Sc Sm z = some (Sc', Sm', z')) (kk : ∀ (H : Heap) (locs : List Loc) (ls : Array Slot), zI D cy Ac Am s Sc' Sm' z' H locs → lv_has ls 4 [(0, .ref b), (1, .ref bc), (2, .ref bm), (3, .int x3)] → W p l e room_1 s m #[Value.ref b] below meth c H locs (q + MC) (w + MS) Q (F0 m 1189 ls [])) : W p l e room_1 s m #[Value.ref b] below meth c H locs q w Q (F0 m 1166 ls []) := by
  obtain ⟨hx, hb, hml, hown, hr, hlocks, hT⟩ := id C.1
  obtain ⟨hH1, hH2, hS, hAz⟩ := hI
  have hdis := C.2.2.2.2.2.1
  unfold LF29 at h
  obtain ⟨u1, eu1, h⟩ := zb_some h
  obtain ⟨r, S1, e1, h⟩ := zb2_some h
  obtain ⟨u2, eu2, h⟩ := zb_some h
  obtain ⟨r2, S2, e2, h⟩ := zb2_some h
  split at h
  · next hr2 =>
    cases h
    refine lv_aload_n hx hb dL_law_1166 rfl (lv_at hl 1 rfl) ?_
    refine lv_aload_n hx hb dL_law_1167 rfl (lv_at hl 0 rfl) ?_
    refine lv_iload_n hx hb dL_law_1168 rfl (lv_at hl 3 rfl) ?_
    refine lv_iconst (v := (1 : Int32)) hx hb dL_law_1169 (by decide) ?_
    refine lv_iadd hx hb dL_law_1170 ?_
    refine z_sld C hS (j := i + 1) (by rw [hx3]; exact nI_add i 1) (by omega) dL_law_1171 ?_
    refine z_cV2 (As := [.int (xs (i + 1))]) C.1 hl hH1 hH2 hS C.2.2.2.1 (fun q h1 h2 => hdis q h2 h1) mlL_135 eu1 (kX7_count e1) rfl rfl (Nat.le_of_ble_eq_true rfl) ⟨rfl, rfl, Nat.le_of_ble_eq_true rfl, Nat.le_of_ble_eq_true rfl⟩ ⟨by show q + 0 ≤ 600000; omega, by show w + 0 ≤ 7302250; omega⟩ dL_law_1172 (fun H locs hH1 hH2 hS hzz => ?_)
    refine lv_aload_n hx hb dL_law_1175 rfl (lv_at hl 2 rfl) ?_
    refine lv_aload_n hx hb dL_law_1176 rfl (lv_at hl 0 rfl) ?_
    refine lv_iload_n hx hb dL_law_1177 rfl (lv_at hl 3 rfl) ?_
    refine lv_iconst (v := (1 : Int32)) hx hb dL_law_1178 (by decide) ?_
    refine lv_iadd hx hb dL_law_1179 ?_
    refine z_sld C hS (j := i + 1) (by rw [hx3]; exact nI_add i 1) (by omega) dL_law_1180 ?_
    refine z_cV2 (As := [.int (xs (i + 1))]) C.1 hl hH2 hH1 hS C.2.2.2.2.1 hdis mlL_138 eu2 (kX8_count e2) rfl rfl (Nat.le_of_ble_eq_true rfl) ⟨rfl, rfl, Nat.le_of_ble_eq_true rfl, Nat.le_of_ble_eq_true rfl⟩ ⟨by show q + 0 + 0 ≤ 600000; omega, by show w + 0 + 0 ≤ 7302250; omega⟩ dL_law_1181 (fun H locs hH2 hH1 hS hzz2 => ?_)
    refine lv_icmp_eq (tgt := 1189) hx hb dL_law_1184 (by decide) (fun _ => ?_) (fun c9 => absurd (hr2) c9)
    exact W.widen (show q + 0 + 0 ≤ q + MC by omega) (show w + 0 + 0 ≤ w + MS by omega) (kk _ _ _ ⟨hH1, hH2, hS, hAz⟩ hl)
  · cases h
end ZLAW
