section
variable {D : va_G} {cy : Nat → ClassId} {A : Nat → Prop} {p : Program} {l : Launch} {e : Env} {s : State} {m : MethodId} {args : Array Value} {below : List Frame} {meth : Method} {c : Code}
set_option maxRecDepth 100000 in
set_option maxHeartbeats 4000000 in
theorem wX8_ring_40 {z : Nat} {N : Nat} {r : Int32} {T : zS} (X : zX D cy p s m meth c cX8_ring 6 RX8 (some .int)) {K40 : zS × Nat × Int32 × Int32 × Int32 × Int32 → Option (Int32 × zS)} (hK40 : ∀ (S : zS) (x0 : Nat) (x2 : Int32) (x3 : Int32) (x4 : Int32) (x5 : Int32), K40 (S, x0, x2, x3, x4, x5) = some (r, T) → zWt D cy A p l e { frames := 2, cells := 0, slots := 0, locals := 42 } s m args below meth c z 0 0 0 0 (zQ D cy A T z (some (.int r))) S 6 40 [(0, .ref x0), (2, .int x2), (3, .int x3), (4, .int x4), (5, .int x5)] []) {S : zS} {x0 : Nat} {x2 : Int32} {x3 : Int32} {x4 : Int32} {x5 : Int32} (h : fX8_ring_40 N K40 S x0 x2 x3 x4 x5 = some (r, T)) : zWt D cy A p l e { frames := 2, cells := 0, slots := 0, locals := 42 } s m args below meth c z 0 0 0 0 (zQ D cy A T z (some (.int r))) S 6 40 [(0, .ref x0), (2, .int x2), (3, .int x3), (4, .int x4), (5, .int x5)] [] := by
  obtain ⟨hx, hb, hml, hown, hr, hlocks, hT⟩ := id X
  intro H locs ls hH hS hl
  unfold fX8_ring_40 at h
  refine lv_iload hx hb dX8_ring_40 (lv_at hl 4 rfl) ?_
  refine lv_iload_n hx hb dX8_ring_42 rfl (lv_at hl 1 rfl) ?_
  refine lv_icmp_ge (tgt := 69) hx hb dX8_ring_43 (by decide) (fun c => ?_) (fun c => ?_)
  · have h := (if_pos c).symm.trans h
    refine lv_iload hx hb dX8_ring_69 (lv_at hl 3 rfl) ?_
    exact z_iret X hH hS h dX8_ring_71
  · have h := (if_neg c).symm.trans h
    refine lv_aload_n hx hb dX8_ring_46 rfl (lv_at hl 0 rfl) ?_
    obtain ⟨v1, ev1, h⟩ := zb_some h
    refine z_getr X flX8_80 hH ev1 dX8_ring_47 ?_
    refine lv_iload hx hb dX8_ring_50 (lv_at hl 3 rfl) ?_
    obtain ⟨v2, ev2, h⟩ := zb_some h
    refine z_iald X hH ev2 dX8_ring_52 ?_
    refine lv_istore (lv' := [(4, .int v2), (0, .ref x0), (2, .int x2), (3, .int x3), (5, .int x5)]) hx hb dX8_ring_53 hl (by decide) rfl (fun ls hl => ?_)
    refine lv_iload hx hb dX8_ring_55 (lv_at hl 0 rfl) ?_
    refine lv_iload_n hx hb dX8_ring_57 rfl (lv_at hl 3 rfl) ?_
    refine lv_icmp_ne (tgt := 63) hx hb dX8_ring_58 (by decide) (fun c => ?_) (fun c => ?_)
    · have h := (if_neg c).symm.trans h
      refine lv_iinc (v := (x5 + (1 : Int32))) (lv' := [(5, .int (x5 + (1 : Int32))), (4, .int v2), (0, .ref x0), (2, .int x2), (3, .int x3)]) hx hb dX8_ring_63 hl (k := 4) rfl (z_ii (by decide) _) (by decide) rfl (fun ls hl => ?_)
      refine lv_goto (tgt := 40) hx hb dX8_ring_66 (by decide) ?_
      exact hK40 _ _ _ _ _ _ h _ _ _ hH hS (lv_sub hl [2, 3, 4, 1, 0] rfl)
    · have h := (if_pos c).symm.trans h
      refine lv_iconst (v := (-1 : Int32)) hx hb dX8_ring_61 (by decide) ?_
      exact z_iret X hH hS h dX8_ring_62
set_option maxRecDepth 100000 in
set_option maxHeartbeats 4000000 in
theorem uX8_ring_40 {z : Nat} {N : Nat} {r : Int32} {T : zS} (X : zX D cy p s m meth c cX8_ring 6 RX8 (some .int))  {S : zS} {x0 : Nat} {x2 : Int32} {x3 : Int32} {x4 : Int32} {x5 : Int32} (h : lX8_ring_40 N S x0 x2 x3 x4 x5 = some (r, T)) : zWt D cy A p l e { frames := 2, cells := 0, slots := 0, locals := 42 } s m args below meth c z 0 0 0 0 (zQ D cy A T z (some (.int r))) S 6 40 [(0, .ref x0), (2, .int x2), (3, .int x3), (4, .int x4), (5, .int x5)] [] := by
  unfold lX8_ring_40 at h
  refine zloop_ind (P := fun y => zWt D cy A p l e { frames := 2, cells := 0, slots := 0, locals := 42 } s m args below meth c z 0 0 0 0 (zQ D cy A T z (some (.int r))) y.1 6 40 [(0, .ref y.2.1), (2, .int y.2.2.1), (3, .int y.2.2.2.1), (4, .int y.2.2.2.2.1), (5, .int y.2.2.2.2.2)] []) ?_ N (S, x0, x2, x3, x4, x5) h
  intro K hK y hy
  obtain ⟨S, x0, x2, x3, x4, x5⟩ := y
  exact wX8_ring_40 X (fun S x0 x2 x3 x4 x5 hq => hK (S, x0, x2, x3, x4, x5) hq) hy
set_option maxRecDepth 100000 in
set_option maxHeartbeats 4000000 in
theorem wX8_ring_0 {z : Nat} {N : Nat} {r : Int32} {T : zS} (X : zX D cy p s m meth c cX8_ring 6 RX8 (some .int))  {S : zS} {x0 : Nat} {x1 : Int32} {x2 : Int32} (h : fX8_ring_0 N S x0 x1 x2 = some (r, T)) : zWt D cy A p l e { frames := 2, cells := 0, slots := 0, locals := 42 } s m args below meth c z 0 0 0 0 (zQ D cy A T z (some (.int r))) S 6 0 [(0, .ref x0), (1, .int x1), (2, .int x2)] [] := by
  obtain ⟨hx, hb, hml, hown, hr, hlocks, hT⟩ := id X
  intro H locs ls hH hS hl
  unfold fX8_ring_0 at h
  refine lv_iload_n hx hb dX8_ring_0 rfl (lv_at hl 1 rfl) ?_
  obtain ⟨v4, S3, eS3, h⟩ := zb2_some h
  refine z_cS (As := [.int x1]) X hl hH hS mlX8_218 (kX8_isMaker eS3) rfl rfl (Nat.le_of_ble_eq_true rfl) ⟨rfl, rfl, Nat.le_of_ble_eq_true rfl, Nat.le_of_ble_eq_true rfl⟩ ⟨Nat.le_refl _, Nat.le_refl _⟩ dX8_ring_1 (fun H locs hH hS => ?_)
  refine lv_if_ne (tgt := 9) hx hb dX8_ring_4 (by decide) (fun c => ?_) (fun c => ?_)
  · have h := (if_neg c).symm.trans h
    refine lv_aload_n hx hb dX8_ring_9 rfl (lv_at hl 0 rfl) ?_
    refine lv_iload_n hx hb dX8_ring_10 rfl (lv_at hl 1 rfl) ?_
    obtain ⟨u5, eu5, h⟩ := zb_some h
    obtain ⟨v7, S6, eS6, h⟩ := zb2_some h
    refine z_cV (As := [.int x1]) X hl hH hS mlX8_221 eu5 (kX8_downFrom eS6) rfl rfl (Nat.le_of_ble_eq_true rfl) ⟨rfl, rfl, Nat.le_of_ble_eq_true rfl, Nat.le_of_ble_eq_true rfl⟩ ⟨Nat.le_refl _, Nat.le_refl _⟩ dX8_ring_11 (fun H locs hH hS => ?_)
    refine lv_bipush (v := (-5 : Int32)) hx hb dX8_ring_14 (by decide) ?_
    refine lv_icmp_eq (tgt := 22) hx hb dX8_ring_16 (by decide) (fun c => ?_) (fun c => ?_)
    · have h := (if_pos c).symm.trans h
      refine lv_aload_n hx hb dX8_ring_22 rfl (lv_at hl 0 rfl) ?_
      refine lv_iload_n hx hb dX8_ring_23 rfl (lv_at hl 1 rfl) ?_
      obtain ⟨u8, eu8, h⟩ := zb_some h
      obtain ⟨v10, S9, eS9, h⟩ := zb2_some h
      refine z_cV (As := [.int x1]) X hl hH hS mlX8_224 eu8 (kX8_walk eS9) rfl rfl (Nat.le_of_ble_eq_true rfl) ⟨rfl, rfl, Nat.le_of_ble_eq_true rfl, Nat.le_of_ble_eq_true rfl⟩ ⟨Nat.le_refl _, Nat.le_refl _⟩ dX8_ring_24 (fun H locs hH hS => ?_)
      refine lv_istore_n (lv' := [(3, .int v10), (0, .ref x0), (1, .int x1), (2, .int x2)]) hx hb dX8_ring_27 rfl hl (by decide) rfl (fun ls hl => ?_)
      refine lv_iload_n hx hb dX8_ring_28 rfl (lv_at hl 3 rfl) ?_
      refine lv_if_ge (tgt := 34) hx hb dX8_ring_29 (by decide) (fun c => ?_) (fun c => ?_)
      · have h := (if_pos c).symm.trans h
        refine lv_iload_n hx hb dX8_ring_34 rfl (lv_at hl 0 rfl) ?_
        refine lv_istore (lv' := [(4, .int v10), (3, .int v10), (0, .ref x0), (1, .int x1), (2, .int x2)]) hx hb dX8_ring_35 hl (by decide) rfl (fun ls hl => ?_)
        refine lv_iconst (v := (0 : Int32)) hx hb dX8_ring_37 (by decide) ?_
        refine lv_istore (lv' := [(5, .int (0 : Int32)), (4, .int v10), (3, .int v10), (0, .ref x0), (1, .int x1), (2, .int x2)]) hx hb dX8_ring_38 hl (by decide) rfl (fun ls hl => ?_)
        exact uX8_ring_40 X h _ _ _ hH hS (lv_sub hl [3, 5, 2, 1, 0] rfl)
      · have h := (if_neg c).symm.trans h
        refine lv_iconst (v := (-1 : Int32)) hx hb dX8_ring_32 (by decide) ?_
        exact z_iret X hH hS h dX8_ring_33
    · have h := (if_neg c).symm.trans h
      refine lv_bipush (v := (-2 : Int32)) hx hb dX8_ring_19 (by decide) ?_
      exact z_iret X hH hS h dX8_ring_21
  · have h := (if_pos c).symm.trans h
    refine lv_iconst (v := (-1 : Int32)) hx hb dX8_ring_7 (by decide) ?_
    exact z_iret X hH hS h dX8_ring_8
set_option maxRecDepth 100000 in
theorem kX8_ring {N : Nat} {r : Int32} {T : zS} {S : zS} {z : Nat} {x0 : Nat} {x1 : Int32} {x2 : Int32} (h : fX8_ring N S x0 x1 x2 = some (r, T)) : Met l yX8_ring [.code yX8_ring cX8_ring 6 (some .int)] { frames := 2, cells := 0, slots := 0, locals := 42 } (zP D cy A S z [.ref x0, .int x1, .int x2]) (zQ D cy A T z (some (.int r))) 0 0 A := by
  refine z_met (lv := [(0, .ref x0), (1, .int x1), (2, .int x2)]) (by decide) (Nat.le_of_ble_eq_true rfl) rfl ?_
  intro p e s m below meth c X H locs ls hH hS hl
  exact wX8_ring_0 X h _ _ _ hH hS (lv_sub hl [0, 1, 2] rfl)
set_option maxRecDepth 100000 in
set_option maxHeartbeats 4000000 in
theorem wX8_needs_141 {z : Nat} {N : Nat} {r : Int32} {T : zS} (X : zX D cy p s m meth c cX8_needs 6 RX8 (some .int)) {K103 : zS × Nat × Int32 × Int32 × Int32 → Option (Int32 × zS)} (hK103 : ∀ (S : zS) (x0 : Nat) (x2 : Int32) (x4 : Int32) (x5 : Int32), K103 (S, x0, x2, x4, x5) = some (r, T) → zWt D cy A p l e { frames := 2, cells := 0, slots := 0, locals := 42 } s m args below meth c z 0 0 0 0 (zQ D cy A T z (some (.int r))) S 6 103 [(0, .ref x0), (2, .int x2), (4, .int x4), (5, .int x5)] []) {S : zS} {x0 : Nat} {x2 : Int32} {x5 : Int32} {y0 : Int32} {y1 : Int32} (h : fX8_needs_141 N K103 S x0 x2 x5 y0 y1 = some (r, T)) : zWt D cy A p l e { frames := 2, cells := 0, slots := 0, locals := 42 } s m args below meth c z 0 0 0 0 (zQ D cy A T z (some (.int r))) S 6 141 [(0, .ref x0), (2, .int x2), (5, .int x5)] [.int y1, .int y0] := by
  obtain ⟨hx, hb, hml, hown, hr, hlocks, hT⟩ := id X
  intro H locs ls hH hS hl
  unfold fX8_needs_141 at h
  refine lv_iadd hx hb dX8_needs_141 ?_
  refine lv_istore (lv' := [(4, .int (y0 + y1)), (0, .ref x0), (2, .int x2), (5, .int x5)]) hx hb dX8_needs_142 hl (by decide) rfl (fun ls hl => ?_)
  refine lv_iinc (v := (x5 + (1 : Int32))) (lv' := [(5, .int (x5 + (1 : Int32))), (4, .int (y0 + y1)), (0, .ref x0), (2, .int x2)]) hx hb dX8_needs_144 hl (k := 3) rfl (z_ii (by decide) _) (by decide) rfl (fun ls hl => ?_)
  refine lv_goto (tgt := 103) hx hb dX8_needs_147 (by decide) ?_
  exact hK103 _ _ _ _ _ h _ _ _ hH hS (lv_sub hl [2, 3, 1, 0] rfl)
set_option maxRecDepth 100000 in
set_option maxHeartbeats 4000000 in
theorem wX8_needs_140 {z : Nat} {N : Nat} {r : Int32} {T : zS} (X : zX D cy p s m meth c cX8_needs 6 RX8 (some .int)) {K103 : zS × Nat × Int32 × Int32 × Int32 → Option (Int32 × zS)} (hK103 : ∀ (S : zS) (x0 : Nat) (x2 : Int32) (x4 : Int32) (x5 : Int32), K103 (S, x0, x2, x4, x5) = some (r, T) → zWt D cy A p l e { frames := 2, cells := 0, slots := 0, locals := 42 } s m args below meth c z 0 0 0 0 (zQ D cy A T z (some (.int r))) S 6 103 [(0, .ref x0), (2, .int x2), (4, .int x4), (5, .int x5)] []) {S : zS} {x0 : Nat} {x2 : Int32} {x5 : Int32} {y0 : Int32} (h : fX8_needs_140 N K103 S x0 x2 x5 y0 = some (r, T)) : zWt D cy A p l e { frames := 2, cells := 0, slots := 0, locals := 42 } s m args below meth c z 0 0 0 0 (zQ D cy A T z (some (.int r))) S 6 140 [(0, .ref x0), (2, .int x2), (5, .int x5)] [.int y0] := by
  obtain ⟨hx, hb, hml, hown, hr, hlocks, hT⟩ := id X
  intro H locs ls hH hS hl
  unfold fX8_needs_140 at h
  refine lv_iconst (v := (0 : Int32)) hx hb dX8_needs_140 (by decide) ?_
  exact wX8_needs_141 X hK103 h _ _ _ hH hS (lv_sub hl [0, 1, 2] rfl)
set_option maxRecDepth 100000 in
set_option maxHeartbeats 4000000 in
theorem wX8_needs_136 {z : Nat} {N : Nat} {r : Int32} {T : zS} (X : zX D cy p s m meth c cX8_needs 6 RX8 (some .int)) {K103 : zS × Nat × Int32 × Int32 × Int32 → Option (Int32 × zS)} (hK103 : ∀ (S : zS) (x0 : Nat) (x2 : Int32) (x4 : Int32) (x5 : Int32), K103 (S, x0, x2, x4, x5) = some (r, T) → zWt D cy A p l e { frames := 2, cells := 0, slots := 0, locals := 42 } s m args below meth c z 0 0 0 0 (zQ D cy A T z (some (.int r))) S 6 103 [(0, .ref x0), (2, .int x2), (4, .int x4), (5, .int x5)] []) {S : zS} {x0 : Nat} {x2 : Int32} {x5 : Int32} {y0 : Int32} (h : fX8_needs_136 N K103 S x0 x2 x5 y0 = some (r, T)) : zWt D cy A p l e { frames := 2, cells := 0, slots := 0, locals := 42 } s m args below meth c z 0 0 0 0 (zQ D cy A T z (some (.int r))) S 6 136 [(0, .ref x0), (2, .int x2), (5, .int x5)] [.int y0] := by
  obtain ⟨hx, hb, hml, hown, hr, hlocks, hT⟩ := id X
  intro H locs ls hH hS hl
  unfold fX8_needs_136 at h
  refine lv_iconst (v := (1 : Int32)) hx hb dX8_needs_136 (by decide) ?_
  refine lv_goto (tgt := 141) hx hb dX8_needs_137 (by decide) ?_
  exact wX8_needs_141 X hK103 h _ _ _ hH hS (lv_sub hl [0, 1, 2] rfl)
set_option maxRecDepth 100000 in
set_option maxHeartbeats 4000000 in
theorem wX8_needs_103 {z : Nat} {N : Nat} {r : Int32} {T : zS} (X : zX D cy p s m meth c cX8_needs 6 RX8 (some .int)) {K103 : zS × Nat × Int32 × Int32 × Int32 → Option (Int32 × zS)} (hK103 : ∀ (S : zS) (x0 : Nat) (x2 : Int32) (x4 : Int32) (x5 : Int32), K103 (S, x0, x2, x4, x5) = some (r, T) → zWt D cy A p l e { frames := 2, cells := 0, slots := 0, locals := 42 } s m args below meth c z 0 0 0 0 (zQ D cy A T z (some (.int r))) S 6 103 [(0, .ref x0), (2, .int x2), (4, .int x4), (5, .int x5)] []) {S : zS} {x0 : Nat} {x2 : Int32} {x4 : Int32} {x5 : Int32} (h : fX8_needs_103 N K103 S x0 x2 x4 x5 = some (r, T)) : zWt D cy A p l e { frames := 2, cells := 0, slots := 0, locals := 42 } s m args below meth c z 0 0 0 0 (zQ D cy A T z (some (.int r))) S 6 103 [(0, .ref x0), (2, .int x2), (4, .int x4), (5, .int x5)] [] := by
  obtain ⟨hx, hb, hml, hown, hr, hlocks, hT⟩ := id X
  intro H locs ls hH hS hl
  unfold fX8_needs_103 at h
  refine lv_iload hx hb dX8_needs_103 (lv_at hl 3 rfl) ?_
  refine lv_bipush (v := (20 : Int32)) hx hb dX8_needs_105 (by decide) ?_
  refine lv_icmp_ge (tgt := 150) hx hb dX8_needs_107 (by decide) (fun c => ?_) (fun c => ?_)
  · have h := (if_pos c).symm.trans h
    refine lv_iload hx hb dX8_needs_150 (lv_at hl 2 rfl) ?_
    exact z_iret X hH hS h dX8_needs_152
  · have h := (if_neg c).symm.trans h
    refine lv_iload hx hb dX8_needs_110 (lv_at hl 2 rfl) ?_
    refine lv_aload_n hx hb dX8_needs_112 rfl (lv_at hl 0 rfl) ?_
    obtain ⟨v1, ev1, h⟩ := zb_some h
    refine z_getr X flX8_92 hH ev1 dX8_needs_113 ?_
    refine lv_iload hx hb dX8_needs_116 (lv_at hl 3 rfl) ?_
    obtain ⟨v2, ev2, h⟩ := zb_some h
    refine z_zald X hH ev2 dX8_needs_118 ?_
    refine lv_if_eq (tgt := 140) hx hb dX8_needs_119 (by decide) (fun c => ?_) (fun c => ?_)
    · have h := (if_pos c).symm.trans h
      exact wX8_needs_140 X hK103 h _ _ _ hH hS (lv_sub hl [0, 1, 3] rfl)
    · have h := (if_neg c).symm.trans h
      refine lv_iload_n hx hb dX8_needs_122 rfl (lv_at hl 1 rfl) ?_
      refine lv_if_eq (tgt := 136) hx hb dX8_needs_123 (by decide) (fun c => ?_) (fun c => ?_)
      · have h := (if_pos c).symm.trans h
        exact wX8_needs_136 X hK103 h _ _ _ hH hS (lv_sub hl [0, 1, 3] rfl)
      · have h := (if_neg c).symm.trans h
        refine lv_aload_n hx hb dX8_needs_126 rfl (lv_at hl 0 rfl) ?_
        obtain ⟨v3, ev3, h⟩ := zb_some h
        refine z_getr X flX8_19 hH ev3 dX8_needs_127 ?_
        refine lv_iload hx hb dX8_needs_130 (lv_at hl 3 rfl) ?_
        obtain ⟨v4, ev4, h⟩ := zb_some h
        refine z_zald X hH ev4 dX8_needs_132 ?_
        refine lv_if_eq (tgt := 140) hx hb dX8_needs_133 (by decide) (fun c => ?_) (fun c => ?_)
        · have h := (if_pos c).symm.trans h
          exact wX8_needs_140 X hK103 h _ _ _ hH hS (lv_sub hl [0, 1, 3] rfl)
        · have h := (if_neg c).symm.trans h
          exact wX8_needs_136 X hK103 h _ _ _ hH hS (lv_sub hl [0, 1, 3] rfl)
set_option maxRecDepth 100000 in
set_option maxHeartbeats 4000000 in
theorem uX8_needs_103 {z : Nat} {N : Nat} {r : Int32} {T : zS} (X : zX D cy p s m meth c cX8_needs 6 RX8 (some .int))  {S : zS} {x0 : Nat} {x2 : Int32} {x4 : Int32} {x5 : Int32} (h : lX8_needs_103 N S x0 x2 x4 x5 = some (r, T)) : zWt D cy A p l e { frames := 2, cells := 0, slots := 0, locals := 42 } s m args below meth c z 0 0 0 0 (zQ D cy A T z (some (.int r))) S 6 103 [(0, .ref x0), (2, .int x2), (4, .int x4), (5, .int x5)] [] := by
  unfold lX8_needs_103 at h
  refine zloop_ind (P := fun y => zWt D cy A p l e { frames := 2, cells := 0, slots := 0, locals := 42 } s m args below meth c z 0 0 0 0 (zQ D cy A T z (some (.int r))) y.1 6 103 [(0, .ref y.2.1), (2, .int y.2.2.1), (4, .int y.2.2.2.1), (5, .int y.2.2.2.2)] []) ?_ N (S, x0, x2, x4, x5) h
  intro K hK y hy
  obtain ⟨S, x0, x2, x4, x5⟩ := y
  exact wX8_needs_103 X (fun S x0 x2 x4 x5 hq => hK (S, x0, x2, x4, x5) hq) hy
set_option maxRecDepth 100000 in
set_option maxHeartbeats 4000000 in
theorem wX8_needs_91 {z : Nat} {N : Nat} {r : Int32} {T : zS} (X : zX D cy p s m meth c cX8_needs 6 RX8 (some .int)) {K51 : zS × Nat × Int32 × Int32 → Option (Int32 × zS)} (hK51 : ∀ (S : zS) (x0 : Nat) (x2 : Int32) (x4 : Int32), K51 (S, x0, x2, x4) = some (r, T) → zWt D cy A p l e { frames := 2, cells := 0, slots := 0, locals := 42 } s m args below meth c z 0 0 0 0 (zQ D cy A T z (some (.int r))) S 6 51 [(0, .ref x0), (2, .int x2), (4, .int x4)] []) {S : zS} {x0 : Nat} {x2 : Int32} {x4 : Int32} (h : fX8_needs_91 N K51 S x0 x2 x4 = some (r, T)) : zWt D cy A p l e { frames := 2, cells := 0, slots := 0, locals := 42 } s m args below meth c z 0 0 0 0 (zQ D cy A T z (some (.int r))) S 6 91 [(0, .ref x0), (2, .int x2), (4, .int x4)] [] := by
  obtain ⟨hx, hb, hml, hown, hr, hlocks, hT⟩ := id X
  intro H locs ls hH hS hl
  unfold fX8_needs_91 at h
  refine lv_iinc (v := (x4 + (1 : Int32))) (lv' := [(4, .int (x4 + (1 : Int32))), (0, .ref x0), (2, .int x2)]) hx hb dX8_needs_91 hl (k := 2) rfl (z_ii (by decide) _) (by decide) rfl (fun ls hl => ?_)
  refine lv_goto (tgt := 51) hx hb dX8_needs_94 (by decide) ?_
  exact hK51 _ _ _ _ h _ _ _ hH hS (lv_sub hl [1, 2, 0] rfl)
set_option maxRecDepth 100000 in
set_option maxHeartbeats 4000000 in
theorem wX8_needs_51 {z : Nat} {N : Nat} {r : Int32} {T : zS} (X : zX D cy p s m meth c cX8_needs 6 RX8 (some .int)) {K51 : zS × Nat × Int32 × Int32 → Option (Int32 × zS)} (hK51 : ∀ (S : zS) (x0 : Nat) (x2 : Int32) (x4 : Int32), K51 (S, x0, x2, x4) = some (r, T) → zWt D cy A p l e { frames := 2, cells := 0, slots := 0, locals := 42 } s m args below meth c z 0 0 0 0 (zQ D cy A T z (some (.int r))) S 6 51 [(0, .ref x0), (2, .int x2), (4, .int x4)] []) {S : zS} {x0 : Nat} {x2 : Int32} {x4 : Int32} (h : fX8_needs_51 N K51 S x0 x2 x4 = some (r, T)) : zWt D cy A p l e { frames := 2, cells := 0, slots := 0, locals := 42 } s m args below meth c z 0 0 0 0 (zQ D cy A T z (some (.int r))) S 6 51 [(0, .ref x0), (2, .int x2), (4, .int x4)] [] := by
  obtain ⟨hx, hb, hml, hown, hr, hlocks, hT⟩ := id X
  intro H locs ls hH hS hl
  unfold fX8_needs_51 at h
  refine lv_iload hx hb dX8_needs_51 (lv_at hl 2 rfl) ?_
  refine lv_bipush (v := (30 : Int32)) hx hb dX8_needs_53 (by decide) ?_
  refine lv_icmp_ge (tgt := 97) hx hb dX8_needs_55 (by decide) (fun c => ?_) (fun c => ?_)
  · have h := (if_pos c).symm.trans h
    refine lv_iconst (v := (0 : Int32)) hx hb dX8_needs_97 (by decide) ?_
    refine lv_istore (lv' := [(4, .int (0 : Int32)), (0, .ref x0), (2, .int x2)]) hx hb dX8_needs_98 hl (by decide) rfl (fun ls hl => ?_)
    refine lv_iconst (v := (0 : Int32)) hx hb dX8_needs_100 (by decide) ?_
    refine lv_istore (lv' := [(5, .int (0 : Int32)), (4, .int (0 : Int32)), (0, .ref x0), (2, .int x2)]) hx hb dX8_needs_101 hl (by decide) rfl (fun ls hl => ?_)
    exact uX8_needs_103 X h _ _ _ hH hS (lv_sub hl [2, 3, 1, 0] rfl)
  · have h := (if_neg c).symm.trans h
    refine lv_aload_n hx hb dX8_needs_58 rfl (lv_at hl 0 rfl) ?_
    obtain ⟨v5, ev5, h⟩ := zb_some h
    refine z_getr X flX8_89 hH ev5 dX8_needs_59 ?_
    refine lv_iload hx hb dX8_needs_62 (lv_at hl 2 rfl) ?_
    obtain ⟨v6, ev6, h⟩ := zb_some h
    refine z_zald X hH ev6 dX8_needs_64 ?_
    refine lv_if_eq (tgt := 91) hx hb dX8_needs_65 (by decide) (fun c => ?_) (fun c => ?_)
    · have h := (if_pos c).symm.trans h
      exact wX8_needs_91 X hK51 h _ _ _ hH hS (lv_sub hl [0, 1, 2] rfl)
    · have h := (if_neg c).symm.trans h
      refine lv_aload_n hx hb dX8_needs_68 rfl (lv_at hl 0 rfl) ?_
      obtain ⟨v7, ev7, h⟩ := zb_some h
      refine z_getr X flX8_80 hH ev7 dX8_needs_69 ?_
      refine lv_iload hx hb dX8_needs_72 (lv_at hl 2 rfl) ?_
      obtain ⟨v8, ev8, h⟩ := zb_some h
      refine z_iald X hH ev8 dX8_needs_74 ?_
      refine lv_if_lt (tgt := 91) hx hb dX8_needs_75 (by decide) (fun c => ?_) (fun c => ?_)
      · have h := (if_pos c).symm.trans h
        exact wX8_needs_91 X hK51 h _ _ _ hH hS (lv_sub hl [0, 1, 2] rfl)
      · have h := (if_neg c).symm.trans h
        refine lv_aload_n hx hb dX8_needs_78 rfl (lv_at hl 0 rfl) ?_
        obtain ⟨v9, ev9, h⟩ := zb_some h
        refine z_getr X flX8_92 hH ev9 dX8_needs_79 ?_
        refine lv_aload_n hx hb dX8_needs_82 rfl (lv_at hl 0 rfl) ?_
        obtain ⟨v10, ev10, h⟩ := zb_some h
        refine z_getr X flX8_83 hH ev10 dX8_needs_83 ?_
        refine lv_iload hx hb dX8_needs_86 (lv_at hl 2 rfl) ?_
        obtain ⟨v11, ev11, h⟩ := zb_some h
        refine z_iald X hH ev11 dX8_needs_88 ?_
        refine lv_iconst (v := (1 : Int32)) hx hb dX8_needs_89 (by decide) ?_
        obtain ⟨S12, eS12, h⟩ := zb_some h
        refine z_zast X hH hS eS12 dX8_needs_90 (fun H locs hH hS => ?_)
        exact wX8_needs_91 X hK51 h _ _ _ hH hS (lv_sub hl [0, 1, 2] rfl)
set_option maxRecDepth 100000 in
set_option maxHeartbeats 4000000 in
theorem uX8_needs_51 {z : Nat} {N : Nat} {r : Int32} {T : zS} (X : zX D cy p s m meth c cX8_needs 6 RX8 (some .int))  {S : zS} {x0 : Nat} {x2 : Int32} {x4 : Int32} (h : lX8_needs_51 N S x0 x2 x4 = some (r, T)) : zWt D cy A p l e { frames := 2, cells := 0, slots := 0, locals := 42 } s m args below meth c z 0 0 0 0 (zQ D cy A T z (some (.int r))) S 6 51 [(0, .ref x0), (2, .int x2), (4, .int x4)] [] := by
  unfold lX8_needs_51 at h
  refine zloop_ind (P := fun y => zWt D cy A p l e { frames := 2, cells := 0, slots := 0, locals := 42 } s m args below meth c z 0 0 0 0 (zQ D cy A T z (some (.int r))) y.1 6 51 [(0, .ref y.2.1), (2, .int y.2.2.1), (4, .int y.2.2.2)] []) ?_ N (S, x0, x2, x4) h
  intro K hK y hy
  obtain ⟨S, x0, x2, x4⟩ := y
  exact wX8_needs_51 X (fun S x0 x2 x4 hq => hK (S, x0, x2, x4) hq) hy
set_option maxRecDepth 100000 in
set_option maxHeartbeats 4000000 in
theorem wX8_needs_27 {z : Nat} {N : Nat} {r : Int32} {T : zS} (X : zX D cy p s m meth c cX8_needs 6 RX8 (some .int)) {K27 : zS × Nat × Int32 × Int32 → Option (Int32 × zS)} (hK27 : ∀ (S : zS) (x0 : Nat) (x2 : Int32) (x4 : Int32), K27 (S, x0, x2, x4) = some (r, T) → zWt D cy A p l e { frames := 2, cells := 0, slots := 0, locals := 42 } s m args below meth c z 0 0 0 0 (zQ D cy A T z (some (.int r))) S 6 27 [(0, .ref x0), (2, .int x2), (4, .int x4)] []) {S : zS} {x0 : Nat} {x2 : Int32} {x4 : Int32} (h : fX8_needs_27 N K27 S x0 x2 x4 = some (r, T)) : zWt D cy A p l e { frames := 2, cells := 0, slots := 0, locals := 42 } s m args below meth c z 0 0 0 0 (zQ D cy A T z (some (.int r))) S 6 27 [(0, .ref x0), (2, .int x2), (4, .int x4)] [] := by
  obtain ⟨hx, hb, hml, hown, hr, hlocks, hT⟩ := id X
  intro H locs ls hH hS hl
  unfold fX8_needs_27 at h
  refine lv_iload hx hb dX8_needs_27 (lv_at hl 2 rfl) ?_
  refine lv_bipush (v := (20 : Int32)) hx hb dX8_needs_29 (by decide) ?_
  refine lv_icmp_ge (tgt := 48) hx hb dX8_needs_31 (by decide) (fun c => ?_) (fun c => ?_)
  · have h := (if_pos c).symm.trans h
    refine lv_iconst (v := (0 : Int32)) hx hb dX8_needs_48 (by decide) ?_
    refine lv_istore (lv' := [(4, .int (0 : Int32)), (0, .ref x0), (2, .int x2)]) hx hb dX8_needs_49 hl (by decide) rfl (fun ls hl => ?_)
    exact uX8_needs_51 X h _ _ _ hH hS (lv_sub hl [1, 2, 0] rfl)
  · have h := (if_neg c).symm.trans h
    refine lv_aload_n hx hb dX8_needs_34 rfl (lv_at hl 0 rfl) ?_
    obtain ⟨v13, ev13, h⟩ := zb_some h
    refine z_getr X flX8_92 hH ev13 dX8_needs_35 ?_
    refine lv_iload hx hb dX8_needs_38 (lv_at hl 2 rfl) ?_
    refine lv_iconst (v := (0 : Int32)) hx hb dX8_needs_40 (by decide) ?_
    obtain ⟨S14, eS14, h⟩ := zb_some h
    refine z_zast X hH hS eS14 dX8_needs_41 (fun H locs hH hS => ?_)
    refine lv_iinc (v := (x4 + (1 : Int32))) (lv' := [(4, .int (x4 + (1 : Int32))), (0, .ref x0), (2, .int x2)]) hx hb dX8_needs_42 hl (k := 2) rfl (z_ii (by decide) _) (by decide) rfl (fun ls hl => ?_)
    refine lv_goto (tgt := 27) hx hb dX8_needs_45 (by decide) ?_
    exact hK27 _ _ _ _ h _ _ _ hH hS (lv_sub hl [1, 2, 0] rfl)
set_option maxRecDepth 100000 in
set_option maxHeartbeats 4000000 in
theorem uX8_needs_27 {z : Nat} {N : Nat} {r : Int32} {T : zS} (X : zX D cy p s m meth c cX8_needs 6 RX8 (some .int))  {S : zS} {x0 : Nat} {x2 : Int32} {x4 : Int32} (h : lX8_needs_27 N S x0 x2 x4 = some (r, T)) : zWt D cy A p l e { frames := 2, cells := 0, slots := 0, locals := 42 } s m args below meth c z 0 0 0 0 (zQ D cy A T z (some (.int r))) S 6 27 [(0, .ref x0), (2, .int x2), (4, .int x4)] [] := by
  unfold lX8_needs_27 at h
  refine zloop_ind (P := fun y => zWt D cy A p l e { frames := 2, cells := 0, slots := 0, locals := 42 } s m args below meth c z 0 0 0 0 (zQ D cy A T z (some (.int r))) y.1 6 27 [(0, .ref y.2.1), (2, .int y.2.2.1), (4, .int y.2.2.2)] []) ?_ N (S, x0, x2, x4) h
  intro K hK y hy
  obtain ⟨S, x0, x2, x4⟩ := y
  exact wX8_needs_27 X (fun S x0 x2 x4 hq => hK (S, x0, x2, x4) hq) hy
set_option maxRecDepth 100000 in
set_option maxHeartbeats 4000000 in
theorem wX8_needs_16 {z : Nat} {N : Nat} {r : Int32} {T : zS} (X : zX D cy p s m meth c cX8_needs 6 RX8 (some .int))  {S : zS} (h : fX8_needs_16 N S = some (r, T)) : zWt D cy A p l e { frames := 2, cells := 0, slots := 0, locals := 42 } s m args below meth c z 0 0 0 0 (zQ D cy A T z (some (.int r))) S 6 16 [] [] := by
  obtain ⟨hx, hb, hml, hown, hr, hlocks, hT⟩ := id X
  intro H locs ls hH hS hl
  unfold fX8_needs_16 at h
  refine lv_iconst (v := (-1 : Int32)) hx hb dX8_needs_16 (by decide) ?_
  exact z_iret X hH hS h dX8_needs_17
set_option maxRecDepth 100000 in
set_option maxHeartbeats 4000000 in
theorem wX8_needs_0 {z : Nat} {N : Nat} {r : Int32} {T : zS} (X : zX D cy p s m meth c cX8_needs 6 RX8 (some .int))  {S : zS} {x0 : Nat} {x1 : Int32} {x2 : Int32} (h : fX8_needs_0 N S x0 x1 x2 = some (r, T)) : zWt D cy A p l e { frames := 2, cells := 0, slots := 0, locals := 42 } s m args below meth c z 0 0 0 0 (zQ D cy A T z (some (.int r))) S 6 0 [(0, .ref x0), (1, .int x1), (2, .int x2)] [] := by
  obtain ⟨hx, hb, hml, hown, hr, hlocks, hT⟩ := id X
  intro H locs ls hH hS hl
  unfold fX8_needs_0 at h
  refine lv_iload_n hx hb dX8_needs_0 rfl (lv_at hl 1 rfl) ?_
  obtain ⟨v16, S15, eS15, h⟩ := zb2_some h
  refine z_cS (As := [.int x1]) X hl hH hS mlX8_218 (kX8_isMaker eS15) rfl rfl (Nat.le_of_ble_eq_true rfl) ⟨rfl, rfl, Nat.le_of_ble_eq_true rfl, Nat.le_of_ble_eq_true rfl⟩ ⟨Nat.le_refl _, Nat.le_refl _⟩ dX8_needs_1 (fun H locs hH hS => ?_)
  refine lv_if_eq (tgt := 16) hx hb dX8_needs_4 (by decide) (fun c => ?_) (fun c => ?_)
  · have h := (if_pos c).symm.trans h
    exact wX8_needs_16 X h _ _ _ hH hS (lv_sub hl [] rfl)
  · have h := (if_neg c).symm.trans h
    refine lv_iload_n hx hb dX8_needs_7 rfl (lv_at hl 2 rfl) ?_
    refine lv_iconst (v := (0 : Int32)) hx hb dX8_needs_8 (by decide) ?_
    refine lv_iconst (v := (1 : Int32)) hx hb dX8_needs_9 (by decide) ?_
    obtain ⟨v18, S17, eS17, h⟩ := zb2_some h
    refine z_cS (As := [.int x2, .int (0 : Int32), .int (1 : Int32)]) X hl hH hS mlX8_99 (kX8_in eS17) rfl rfl (Nat.le_of_ble_eq_true rfl) ⟨rfl, rfl, Nat.le_of_ble_eq_true rfl, Nat.le_of_ble_eq_true rfl⟩ ⟨Nat.le_refl _, Nat.le_refl _⟩ dX8_needs_10 (fun H locs hH hS => ?_)
    refine lv_if_ne (tgt := 18) hx hb dX8_needs_13 (by decide) (fun c => ?_) (fun c => ?_)
    · have h := (if_neg c).symm.trans h
      refine lv_aload_n hx hb dX8_needs_18 rfl (lv_at hl 0 rfl) ?_
      refine lv_iload_n hx hb dX8_needs_19 rfl (lv_at hl 1 rfl) ?_
      obtain ⟨u19, eu19, h⟩ := zb_some h
      obtain ⟨v21, S20, eS20, h⟩ := zb2_some h
      refine z_cV (As := [.int x1]) X hl hH hS mlX8_224 eu19 (kX8_walk eS20) rfl rfl (Nat.le_of_ble_eq_true rfl) ⟨rfl, rfl, Nat.le_of_ble_eq_true rfl, Nat.le_of_ble_eq_true rfl⟩ ⟨Nat.le_refl _, Nat.le_refl _⟩ dX8_needs_20 (fun H locs hH hS => ?_)
      refine lv_istore_n (lv' := [(3, .int v21), (0, .ref x0), (1, .int x1), (2, .int x2)]) hx hb dX8_needs_23 rfl hl (by decide) rfl (fun ls hl => ?_)
      refine lv_iconst (v := (0 : Int32)) hx hb dX8_needs_24 (by decide) ?_
      refine lv_istore (lv' := [(4, .int (0 : Int32)), (3, .int v21), (0, .ref x0), (1, .int x1), (2, .int x2)]) hx hb dX8_needs_25 hl (by decide) rfl (fun ls hl => ?_)
      exact uX8_needs_27 X h _ _ _ hH hS (lv_sub hl [2, 4, 0] rfl)
    · have h := (if_pos c).symm.trans h
      exact wX8_needs_16 X h _ _ _ hH hS (lv_sub hl [] rfl)
set_option maxRecDepth 100000 in
theorem kX8_needs {N : Nat} {r : Int32} {T : zS} {S : zS} {z : Nat} {x0 : Nat} {x1 : Int32} {x2 : Int32} (h : fX8_needs N S x0 x1 x2 = some (r, T)) : Met l yX8_needs [.code yX8_needs cX8_needs 6 (some .int)] { frames := 2, cells := 0, slots := 0, locals := 42 } (zP D cy A S z [.ref x0, .int x1, .int x2]) (zQ D cy A T z (some (.int r))) 0 0 A := by
  refine z_met (lv := [(0, .ref x0), (1, .int x1), (2, .int x2)]) (by decide) (Nat.le_of_ble_eq_true rfl) rfl ?_
  intro p e s m below meth c X H locs ls hH hS hl
  exact wX8_needs_0 X h _ _ _ hH hS (lv_sub hl [0, 1, 2] rfl)
set_option maxRecDepth 100000 in
set_option maxHeartbeats 4000000 in
theorem wX8_forge_48 {z : Nat} {N : Nat} {r : Int32} {T : zS} (X : zX D cy p s m meth c cX8_forge 4 RX8 (some .int))  {S : zS} {x3 : Int32} {y0 : Nat} {y1 : Int32} {y2 : Int32} (h : fX8_forge_48 N S x3 y0 y1 y2 = some (r, T)) : zWt D cy A p l e { frames := 2, cells := 0, slots := 0, locals := 42 } s m args below meth c z 0 0 0 0 (zQ D cy A T z (some (.int r))) S 4 48 [(3, .int x3)] [.int y2, .int y1, .ref y0] := by
  obtain ⟨hx, hb, hml, hown, hr, hlocks, hT⟩ := id X
  intro H locs ls hH hS hl
  unfold fX8_forge_48 at h
  obtain ⟨S1, eS1, h⟩ := zb_some h
  refine z_zast X hH hS eS1 dX8_forge_48 (fun H locs hH hS => ?_)
  refine lv_iload_n hx hb dX8_forge_49 rfl (lv_at hl 0 rfl) ?_
  exact z_iret X hH hS h dX8_forge_50
set_option maxRecDepth 100000 in
set_option maxHeartbeats 4000000 in
theorem wX8_forge_32 {z : Nat} {N : Nat} {r : Int32} {T : zS} (X : zX D cy p s m meth c cX8_forge 4 RX8 (some .int))  {S : zS} {x0 : Nat} {x1 : Int32} {x2 : Int32} {y0 : Int32} (h : fX8_forge_32 N S x0 x1 x2 y0 = some (r, T)) : zWt D cy A p l e { frames := 2, cells := 0, slots := 0, locals := 42 } s m args below meth c z 0 0 0 0 (zQ D cy A T z (some (.int r))) S 4 32 [(0, .ref x0), (1, .int x1), (2, .int x2)] [.int y0] := by
  obtain ⟨hx, hb, hml, hown, hr, hlocks, hT⟩ := id X
  intro H locs ls hH hS hl
  unfold fX8_forge_32 at h
  refine lv_istore_n (lv' := [(3, .int y0), (0, .ref x0), (1, .int x1), (2, .int x2)]) hx hb dX8_forge_32 rfl hl (by decide) rfl (fun ls hl => ?_)
  refine lv_aload_n hx hb dX8_forge_33 rfl (lv_at hl 1 rfl) ?_
  obtain ⟨v2, ev2, h⟩ := zb_some h
  refine z_getr X flX8_86 hH ev2 dX8_forge_34 ?_
  refine lv_iload_n hx hb dX8_forge_37 rfl (lv_at hl 2 rfl) ?_
  refine lv_iload_n hx hb dX8_forge_38 rfl (lv_at hl 3 rfl) ?_
  refine lv_iconst (v := (1 : Int32)) hx hb dX8_forge_39 (by decide) ?_
  refine lv_icmp_ne (tgt := 47) hx hb dX8_forge_40 (by decide) (fun c => ?_) (fun c => ?_)
  · have h := (if_neg c).symm.trans h
    refine lv_iconst (v := (0 : Int32)) hx hb dX8_forge_47 (by decide) ?_
    exact wX8_forge_48 X h _ _ _ hH hS (lv_sub hl [0] rfl)
  · have h := (if_pos c).symm.trans h
    refine lv_iconst (v := (1 : Int32)) hx hb dX8_forge_43 (by decide) ?_
    refine lv_goto (tgt := 48) hx hb dX8_forge_44 (by decide) ?_
    exact wX8_forge_48 X h _ _ _ hH hS (lv_sub hl [0] rfl)
set_option maxRecDepth 100000 in
set_option maxHeartbeats 4000000 in
theorem wX8_forge_16 {z : Nat} {N : Nat} {r : Int32} {T : zS} (X : zX D cy p s m meth c cX8_forge 4 RX8 (some .int))  {S : zS} (h : fX8_forge_16 N S = some (r, T)) : zWt D cy A p l e { frames := 2, cells := 0, slots := 0, locals := 42 } s m args below meth c z 0 0 0 0 (zQ D cy A T z (some (.int r))) S 4 16 [] [] := by
  obtain ⟨hx, hb, hml, hown, hr, hlocks, hT⟩ := id X
  intro H locs ls hH hS hl
  unfold fX8_forge_16 at h
  refine lv_iconst (v := (-1 : Int32)) hx hb dX8_forge_16 (by decide) ?_
  exact z_iret X hH hS h dX8_forge_17
set_option maxRecDepth 100000 in
set_option maxHeartbeats 4000000 in
theorem wX8_forge_0 {z : Nat} {N : Nat} {r : Int32} {T : zS} (X : zX D cy p s m meth c cX8_forge 4 RX8 (some .int))  {S : zS} {x0 : Nat} {x1 : Int32} {x2 : Int32} (h : fX8_forge_0 N S x0 x1 x2 = some (r, T)) : zWt D cy A p l e { frames := 2, cells := 0, slots := 0, locals := 42 } s m args below meth c z 0 0 0 0 (zQ D cy A T z (some (.int r))) S 4 0 [(0, .ref x0), (1, .int x1), (2, .int x2)] [] := by
  obtain ⟨hx, hb, hml, hown, hr, hlocks, hT⟩ := id X
  intro H locs ls hH hS hl
  unfold fX8_forge_0 at h
  refine lv_iload_n hx hb dX8_forge_0 rfl (lv_at hl 1 rfl) ?_
  obtain ⟨v4, S3, eS3, h⟩ := zb2_some h
  refine z_cS (As := [.int x1]) X hl hH hS mlX8_218 (kX8_isMaker eS3) rfl rfl (Nat.le_of_ble_eq_true rfl) ⟨rfl, rfl, Nat.le_of_ble_eq_true rfl, Nat.le_of_ble_eq_true rfl⟩ ⟨Nat.le_refl _, Nat.le_refl _⟩ dX8_forge_1 (fun H locs hH hS => ?_)
  refine lv_if_eq (tgt := 16) hx hb dX8_forge_4 (by decide) (fun c => ?_) (fun c => ?_)
  · have h := (if_pos c).symm.trans h
    exact wX8_forge_16 X h _ _ _ hH hS (lv_sub hl [] rfl)
  · have h := (if_neg c).symm.trans h
    refine lv_iload_n hx hb dX8_forge_7 rfl (lv_at hl 2 rfl) ?_
    refine lv_iconst (v := (0 : Int32)) hx hb dX8_forge_8 (by decide) ?_
    refine lv_iconst (v := (1 : Int32)) hx hb dX8_forge_9 (by decide) ?_
    obtain ⟨v6, S5, eS5, h⟩ := zb2_some h
    refine z_cS (As := [.int x2, .int (0 : Int32), .int (1 : Int32)]) X hl hH hS mlX8_99 (kX8_in eS5) rfl rfl (Nat.le_of_ble_eq_true rfl) ⟨rfl, rfl, Nat.le_of_ble_eq_true rfl, Nat.le_of_ble_eq_true rfl⟩ ⟨Nat.le_refl _, Nat.le_refl _⟩ dX8_forge_10 (fun H locs hH hS => ?_)
    refine lv_if_ne (tgt := 18) hx hb dX8_forge_13 (by decide) (fun c => ?_) (fun c => ?_)
    · have h := (if_neg c).symm.trans h
      refine lv_aload_n hx hb dX8_forge_18 rfl (lv_at hl 0 rfl) ?_
      obtain ⟨v7, ev7, h⟩ := zb_some h
      refine z_getr X flX8_86 hH ev7 dX8_forge_19 ?_
      refine lv_iload_n hx hb dX8_forge_22 rfl (lv_at hl 1 rfl) ?_
      obtain ⟨v8, ev8, h⟩ := zb_some h
      refine z_zald X hH ev8 dX8_forge_23 ?_
      refine lv_if_eq (tgt := 31) hx hb dX8_forge_24 (by decide) (fun c => ?_) (fun c => ?_)
      · have h := (if_pos c).symm.trans h
        refine lv_iconst (v := (0 : Int32)) hx hb dX8_forge_31 (by decide) ?_
        exact wX8_forge_32 X h _ _ _ hH hS (lv_sub hl [0, 1, 2] rfl)
      · have h := (if_neg c).symm.trans h
        refine lv_iconst (v := (1 : Int32)) hx hb dX8_forge_27 (by decide) ?_
        refine lv_goto (tgt := 32) hx hb dX8_forge_28 (by decide) ?_
        exact wX8_forge_32 X h _ _ _ hH hS (lv_sub hl [0, 1, 2] rfl)
    · have h := (if_pos c).symm.trans h
      exact wX8_forge_16 X h _ _ _ hH hS (lv_sub hl [] rfl)
set_option maxRecDepth 100000 in
theorem kX8_forge {N : Nat} {r : Int32} {T : zS} {S : zS} {z : Nat} {x0 : Nat} {x1 : Int32} {x2 : Int32} (h : fX8_forge N S x0 x1 x2 = some (r, T)) : Met l yX8_forge [.code yX8_forge cX8_forge 4 (some .int)] { frames := 2, cells := 0, slots := 0, locals := 42 } (zP D cy A S z [.ref x0, .int x1, .int x2]) (zQ D cy A T z (some (.int r))) 0 0 A := by
  refine z_met (lv := [(0, .ref x0), (1, .int x1), (2, .int x2)]) (by decide) (Nat.le_of_ble_eq_true rfl) rfl ?_
  intro p e s m below meth c X H locs ls hH hS hl
  exact wX8_forge_0 X h _ _ _ hH hS (lv_sub hl [0, 1, 2] rfl)
set_option maxRecDepth 100000 in
set_option maxHeartbeats 4000000 in
theorem wX8_trust_43 {z : Nat} {N : Nat} {r : Int32} {T : zS} (X : zX D cy p s m meth c cX8_trust 4 RX8 (some .int)) {K17 : zS × Nat × Int32 → Option (Int32 × zS)} (hK17 : ∀ (S : zS) (x0 : Nat) (x3 : Int32), K17 (S, x0, x3) = some (r, T) → zWt D cy A p l e { frames := 2, cells := 0, slots := 0, locals := 42 } s m args below meth c z 0 0 0 0 (zQ D cy A T z (some (.int r))) S 4 17 [(0, .ref x0), (3, .int x3)] []) {S : zS} {x0 : Nat} {x3 : Int32} (h : fX8_trust_43 N K17 S x0 x3 = some (r, T)) : zWt D cy A p l e { frames := 2, cells := 0, slots := 0, locals := 42 } s m args below meth c z 0 0 0 0 (zQ D cy A T z (some (.int r))) S 4 43 [(0, .ref x0), (3, .int x3)] [] := by
  obtain ⟨hx, hb, hml, hown, hr, hlocks, hT⟩ := id X
  intro H locs ls hH hS hl
  unfold fX8_trust_43 at h
  refine lv_iinc (v := (x3 + (1 : Int32))) (lv' := [(3, .int (x3 + (1 : Int32))), (0, .ref x0)]) hx hb dX8_trust_43 hl (k := 1) rfl (z_ii (by decide) _) (by decide) rfl (fun ls hl => ?_)
  refine lv_goto (tgt := 17) hx hb dX8_trust_46 (by decide) ?_
  exact hK17 _ _ _ h _ _ _ hH hS (lv_sub hl [1, 0] rfl)
set_option maxRecDepth 100000 in
set_option maxHeartbeats 4000000 in
theorem wX8_trust_17 {z : Nat} {N : Nat} {r : Int32} {T : zS} (X : zX D cy p s m meth c cX8_trust 4 RX8 (some .int)) {K17 : zS × Nat × Int32 → Option (Int32 × zS)} (hK17 : ∀ (S : zS) (x0 : Nat) (x3 : Int32), K17 (S, x0, x3) = some (r, T) → zWt D cy A p l e { frames := 2, cells := 0, slots := 0, locals := 42 } s m args below meth c z 0 0 0 0 (zQ D cy A T z (some (.int r))) S 4 17 [(0, .ref x0), (3, .int x3)] []) {S : zS} {x0 : Nat} {x3 : Int32} (h : fX8_trust_17 N K17 S x0 x3 = some (r, T)) : zWt D cy A p l e { frames := 2, cells := 0, slots := 0, locals := 42 } s m args below meth c z 0 0 0 0 (zQ D cy A T z (some (.int r))) S 4 17 [(0, .ref x0), (3, .int x3)] [] := by
  obtain ⟨hx, hb, hml, hown, hr, hlocks, hT⟩ := id X
  intro H locs ls hH hS hl
  unfold fX8_trust_17 at h
  refine lv_iload_n hx hb dX8_trust_17 rfl (lv_at hl 1 rfl) ?_
  refine lv_bipush (v := (30 : Int32)) hx hb dX8_trust_18 (by decide) ?_
  refine lv_icmp_ge (tgt := 49) hx hb dX8_trust_20 (by decide) (fun c => ?_) (fun c => ?_)
  · have h := (if_pos c).symm.trans h
    refine lv_iconst (v := (1 : Int32)) hx hb dX8_trust_49 (by decide) ?_
    exact z_iret X hH hS h dX8_trust_50
  · have h := (if_neg c).symm.trans h
    refine lv_aload_n hx hb dX8_trust_23 rfl (lv_at hl 0 rfl) ?_
    obtain ⟨v1, ev1, h⟩ := zb_some h
    refine z_getr X flX8_89 hH ev1 dX8_trust_24 ?_
    refine lv_iload_n hx hb dX8_trust_27 rfl (lv_at hl 1 rfl) ?_
    obtain ⟨v2, ev2, h⟩ := zb_some h
    refine z_zald X hH ev2 dX8_trust_28 ?_
    refine lv_if_eq (tgt := 43) hx hb dX8_trust_29 (by decide) (fun c => ?_) (fun c => ?_)
    · have h := (if_pos c).symm.trans h
      exact wX8_trust_43 X hK17 h _ _ _ hH hS (lv_sub hl [0, 1] rfl)
    · have h := (if_neg c).symm.trans h
      refine lv_aload_n hx hb dX8_trust_32 rfl (lv_at hl 0 rfl) ?_
      obtain ⟨v3, ev3, h⟩ := zb_some h
      refine z_getr X flX8_86 hH ev3 dX8_trust_33 ?_
      refine lv_iload_n hx hb dX8_trust_36 rfl (lv_at hl 1 rfl) ?_
      obtain ⟨v4, ev4, h⟩ := zb_some h
      refine z_zald X hH ev4 dX8_trust_37 ?_
      refine lv_if_eq (tgt := 43) hx hb dX8_trust_38 (by decide) (fun c => ?_) (fun c => ?_)
      · have h := (if_pos c).symm.trans h
        exact wX8_trust_43 X hK17 h _ _ _ hH hS (lv_sub hl [0, 1] rfl)
      · have h := (if_neg c).symm.trans h
        refine lv_iconst (v := (0 : Int32)) hx hb dX8_trust_41 (by decide) ?_
        exact z_iret X hH hS h dX8_trust_42
set_option maxRecDepth 100000 in
set_option maxHeartbeats 4000000 in
theorem uX8_trust_17 {z : Nat} {N : Nat} {r : Int32} {T : zS} (X : zX D cy p s m meth c cX8_trust 4 RX8 (some .int))  {S : zS} {x0 : Nat} {x3 : Int32} (h : lX8_trust_17 N S x0 x3 = some (r, T)) : zWt D cy A p l e { frames := 2, cells := 0, slots := 0, locals := 42 } s m args below meth c z 0 0 0 0 (zQ D cy A T z (some (.int r))) S 4 17 [(0, .ref x0), (3, .int x3)] [] := by
  unfold lX8_trust_17 at h
  refine zloop_ind (P := fun y => zWt D cy A p l e { frames := 2, cells := 0, slots := 0, locals := 42 } s m args below meth c z 0 0 0 0 (zQ D cy A T z (some (.int r))) y.1 4 17 [(0, .ref y.2.1), (3, .int y.2.2)] []) ?_ N (S, x0, x3) h
  intro K hK y hy
  obtain ⟨S, x0, x3⟩ := y
  exact wX8_trust_17 X (fun S x0 x3 hq => hK (S, x0, x3) hq) hy
set_option maxRecDepth 100000 in
set_option maxHeartbeats 4000000 in
theorem wX8_trust_0 {z : Nat} {N : Nat} {r : Int32} {T : zS} (X : zX D cy p s m meth c cX8_trust 4 RX8 (some .int))  {S : zS} {x0 : Nat} {x1 : Int32} (h : fX8_trust_0 N S x0 x1 = some (r, T)) : zWt D cy A p l e { frames := 2, cells := 0, slots := 0, locals := 42 } s m args below meth c z 0 0 0 0 (zQ D cy A T z (some (.int r))) S 4 0 [(0, .ref x0), (1, .int x1)] [] := by
  obtain ⟨hx, hb, hml, hown, hr, hlocks, hT⟩ := id X
  intro H locs ls hH hS hl
  unfold fX8_trust_0 at h
  refine lv_iload_n hx hb dX8_trust_0 rfl (lv_at hl 1 rfl) ?_
  obtain ⟨v6, S5, eS5, h⟩ := zb2_some h
  refine z_cS (As := [.int x1]) X hl hH hS mlX8_218 (kX8_isMaker eS5) rfl rfl (Nat.le_of_ble_eq_true rfl) ⟨rfl, rfl, Nat.le_of_ble_eq_true rfl, Nat.le_of_ble_eq_true rfl⟩ ⟨Nat.le_refl _, Nat.le_refl _⟩ dX8_trust_1 (fun H locs hH hS => ?_)
  refine lv_if_ne (tgt := 9) hx hb dX8_trust_4 (by decide) (fun c => ?_) (fun c => ?_)
  · have h := (if_neg c).symm.trans h
    refine lv_aload_n hx hb dX8_trust_9 rfl (lv_at hl 0 rfl) ?_
    refine lv_iload_n hx hb dX8_trust_10 rfl (lv_at hl 1 rfl) ?_
    obtain ⟨u7, eu7, h⟩ := zb_some h
    obtain ⟨v9, S8, eS8, h⟩ := zb2_some h
    refine z_cV (As := [.int x1]) X hl hH hS mlX8_224 eu7 (kX8_walk eS8) rfl rfl (Nat.le_of_ble_eq_true rfl) ⟨rfl, rfl, Nat.le_of_ble_eq_true rfl, Nat.le_of_ble_eq_true rfl⟩ ⟨Nat.le_refl _, Nat.le_refl _⟩ dX8_trust_11 (fun H locs hH hS => ?_)
    refine lv_istore_n (lv' := [(2, .int v9), (0, .ref x0), (1, .int x1)]) hx hb dX8_trust_14 rfl hl (by decide) rfl (fun ls hl => ?_)
    refine lv_iconst (v := (0 : Int32)) hx hb dX8_trust_15 (by decide) ?_
    refine lv_istore_n (lv' := [(3, .int (0 : Int32)), (2, .int v9), (0, .ref x0), (1, .int x1)]) hx hb dX8_trust_16 rfl hl (by decide) rfl (fun ls hl => ?_)
    exact uX8_trust_17 X h _ _ _ hH hS (lv_sub hl [2, 0] rfl)
  · have h := (if_pos c).symm.trans h
    refine lv_iconst (v := (-1 : Int32)) hx hb dX8_trust_7 (by decide) ?_
    exact z_iret X hH hS h dX8_trust_8
set_option maxRecDepth 100000 in
theorem kX8_trust {N : Nat} {r : Int32} {T : zS} {S : zS} {z : Nat} {x0 : Nat} {x1 : Int32} (h : fX8_trust N S x0 x1 = some (r, T)) : Met l yX8_trust [.code yX8_trust cX8_trust 4 (some .int)] { frames := 2, cells := 0, slots := 0, locals := 42 } (zP D cy A S z [.ref x0, .int x1]) (zQ D cy A T z (some (.int r))) 0 0 A := by
  refine z_met (lv := [(0, .ref x0), (1, .int x1)]) (by decide) (Nat.le_of_ble_eq_true rfl) rfl ?_
  intro p e s m below meth c X H locs ls hH hS hl
  exact wX8_trust_0 X h _ _ _ hH hS (lv_sub hl [0, 1] rfl)
set_option maxRecDepth 100000 in
set_option maxHeartbeats 4000000 in
theorem wX8_heirs_46 {z : Nat} {N : Nat} {r : Int32} {T : zS} (X : zX D cy p s m meth c cX8_heirs 5 RX8 (some .int)) {K13 : zS × Nat × Int32 × Int32 × Int32 → Option (Int32 × zS)} (hK13 : ∀ (S : zS) (x0 : Nat) (x1 : Int32) (x2 : Int32) (x3 : Int32), K13 (S, x0, x1, x2, x3) = some (r, T) → zWt D cy A p l e { frames := 2, cells := 0, slots := 0, locals := 42 } s m args below meth c z 0 0 0 0 (zQ D cy A T z (some (.int r))) S 5 13 [(0, .ref x0), (1, .int x1), (2, .int x2), (3, .int x3)] []) {S : zS} {x0 : Nat} {x1 : Int32} {x3 : Int32} {y0 : Int32} {y1 : Int32} (h : fX8_heirs_46 N K13 S x0 x1 x3 y0 y1 = some (r, T)) : zWt D cy A p l e { frames := 2, cells := 0, slots := 0, locals := 42 } s m args below meth c z 0 0 0 0 (zQ D cy A T z (some (.int r))) S 5 46 [(0, .ref x0), (1, .int x1), (3, .int x3)] [.int y1, .int y0] := by
  obtain ⟨hx, hb, hml, hown, hr, hlocks, hT⟩ := id X
  intro H locs ls hH hS hl
  unfold fX8_heirs_46 at h
  refine lv_iadd hx hb dX8_heirs_46 ?_
  refine lv_istore_n (lv' := [(2, .int (y0 + y1)), (0, .ref x0), (1, .int x1), (3, .int x3)]) hx hb dX8_heirs_47 rfl hl (by decide) rfl (fun ls hl => ?_)
  refine lv_iinc (v := (x3 + (1 : Int32))) (lv' := [(3, .int (x3 + (1 : Int32))), (2, .int (y0 + y1)), (0, .ref x0), (1, .int x1)]) hx hb dX8_heirs_48 hl (k := 3) rfl (z_ii (by decide) _) (by decide) rfl (fun ls hl => ?_)
  refine lv_goto (tgt := 13) hx hb dX8_heirs_51 (by decide) ?_
  exact hK13 _ _ _ _ _ h _ _ _ hH hS (lv_sub hl [2, 3, 1, 0] rfl)
set_option maxRecDepth 100000 in
set_option maxHeartbeats 4000000 in
theorem wX8_heirs_45 {z : Nat} {N : Nat} {r : Int32} {T : zS} (X : zX D cy p s m meth c cX8_heirs 5 RX8 (some .int)) {K13 : zS × Nat × Int32 × Int32 × Int32 → Option (Int32 × zS)} (hK13 : ∀ (S : zS) (x0 : Nat) (x1 : Int32) (x2 : Int32) (x3 : Int32), K13 (S, x0, x1, x2, x3) = some (r, T) → zWt D cy A p l e { frames := 2, cells := 0, slots := 0, locals := 42 } s m args below meth c z 0 0 0 0 (zQ D cy A T z (some (.int r))) S 5 13 [(0, .ref x0), (1, .int x1), (2, .int x2), (3, .int x3)] []) {S : zS} {x0 : Nat} {x1 : Int32} {x3 : Int32} {y0 : Int32} (h : fX8_heirs_45 N K13 S x0 x1 x3 y0 = some (r, T)) : zWt D cy A p l e { frames := 2, cells := 0, slots := 0, locals := 42 } s m args below meth c z 0 0 0 0 (zQ D cy A T z (some (.int r))) S 5 45 [(0, .ref x0), (1, .int x1), (3, .int x3)] [.int y0] := by
  obtain ⟨hx, hb, hml, hown, hr, hlocks, hT⟩ := id X
  intro H locs ls hH hS hl
  unfold fX8_heirs_45 at h
  refine lv_iconst (v := (0 : Int32)) hx hb dX8_heirs_45 (by decide) ?_
  exact wX8_heirs_46 X hK13 h _ _ _ hH hS (lv_sub hl [0, 1, 2] rfl)
set_option maxRecDepth 100000 in
set_option maxHeartbeats 4000000 in
theorem wX8_heirs_13 {z : Nat} {N : Nat} {r : Int32} {T : zS} (X : zX D cy p s m meth c cX8_heirs 5 RX8 (some .int)) {K13 : zS × Nat × Int32 × Int32 × Int32 → Option (Int32 × zS)} (hK13 : ∀ (S : zS) (x0 : Nat) (x1 : Int32) (x2 : Int32) (x3 : Int32), K13 (S, x0, x1, x2, x3) = some (r, T) → zWt D cy A p l e { frames := 2, cells := 0, slots := 0, locals := 42 } s m args below meth c z 0 0 0 0 (zQ D cy A T z (some (.int r))) S 5 13 [(0, .ref x0), (1, .int x1), (2, .int x2), (3, .int x3)] []) {S : zS} {x0 : Nat} {x1 : Int32} {x2 : Int32} {x3 : Int32} (h : fX8_heirs_13 N K13 S x0 x1 x2 x3 = some (r, T)) : zWt D cy A p l e { frames := 2, cells := 0, slots := 0, locals := 42 } s m args below meth c z 0 0 0 0 (zQ D cy A T z (some (.int r))) S 5 13 [(0, .ref x0), (1, .int x1), (2, .int x2), (3, .int x3)] [] := by
  obtain ⟨hx, hb, hml, hown, hr, hlocks, hT⟩ := id X
  intro H locs ls hH hS hl
  unfold fX8_heirs_13 at h
  refine lv_iload_n hx hb dX8_heirs_13 rfl (lv_at hl 3 rfl) ?_
  refine lv_bipush (v := (30 : Int32)) hx hb dX8_heirs_14 (by decide) ?_
  refine lv_icmp_ge (tgt := 54) hx hb dX8_heirs_16 (by decide) (fun c => ?_) (fun c => ?_)
  · have h := (if_pos c).symm.trans h
    refine lv_iload_n hx hb dX8_heirs_54 rfl (lv_at hl 2 rfl) ?_
    exact z_iret X hH hS h dX8_heirs_55
  · have h := (if_neg c).symm.trans h
    refine lv_aload_n hx hb dX8_heirs_19 rfl (lv_at hl 0 rfl) ?_
    refine lv_iload_n hx hb dX8_heirs_20 rfl (lv_at hl 3 rfl) ?_
    obtain ⟨u1, eu1, h⟩ := zb_some h
    obtain ⟨v3, S2, eS2, h⟩ := zb2_some h
    refine z_cV (As := [.int x3]) X hl hH hS mlX8_224 eu1 (kX8_walk eS2) rfl rfl (Nat.le_of_ble_eq_true rfl) ⟨rfl, rfl, Nat.le_of_ble_eq_true rfl, Nat.le_of_ble_eq_true rfl⟩ ⟨Nat.le_refl _, Nat.le_refl _⟩ dX8_heirs_21 (fun H locs hH hS => ?_)
    refine lv_istore (lv' := [(4, .int v3), (0, .ref x0), (1, .int x1), (2, .int x2), (3, .int x3)]) hx hb dX8_heirs_24 hl (by decide) rfl (fun ls hl => ?_)
    refine lv_iload_n hx hb dX8_heirs_26 rfl (lv_at hl 3 rfl) ?_
    refine lv_iload_n hx hb dX8_heirs_27 rfl (lv_at hl 4 rfl) ?_
    refine lv_iload_n hx hb dX8_heirs_28 rfl (lv_at hl 2 rfl) ?_
    refine lv_icmp_eq (tgt := 45) hx hb dX8_heirs_29 (by decide) (fun c => ?_) (fun c => ?_)
    · have h := (if_pos c).symm.trans h
      exact wX8_heirs_45 X hK13 h _ _ _ hH hS (lv_sub hl [1, 2, 4] rfl)
    · have h := (if_neg c).symm.trans h
      refine lv_aload_n hx hb dX8_heirs_32 rfl (lv_at hl 1 rfl) ?_
      obtain ⟨v4, ev4, h⟩ := zb_some h
      refine z_getr X flX8_89 hH ev4 dX8_heirs_33 ?_
      refine lv_iload_n hx hb dX8_heirs_36 rfl (lv_at hl 2 rfl) ?_
      obtain ⟨v5, ev5, h⟩ := zb_some h
      refine z_zald X hH ev5 dX8_heirs_37 ?_
      refine lv_if_eq (tgt := 45) hx hb dX8_heirs_38 (by decide) (fun c => ?_) (fun c => ?_)
      · have h := (if_pos c).symm.trans h
        exact wX8_heirs_45 X hK13 h _ _ _ hH hS (lv_sub hl [1, 2, 4] rfl)
      · have h := (if_neg c).symm.trans h
        refine lv_iconst (v := (1 : Int32)) hx hb dX8_heirs_41 (by decide) ?_
        refine lv_goto (tgt := 46) hx hb dX8_heirs_42 (by decide) ?_
        exact wX8_heirs_46 X hK13 h _ _ _ hH hS (lv_sub hl [1, 2, 4] rfl)
set_option maxRecDepth 100000 in
set_option maxHeartbeats 4000000 in
theorem uX8_heirs_13 {z : Nat} {N : Nat} {r : Int32} {T : zS} (X : zX D cy p s m meth c cX8_heirs 5 RX8 (some .int))  {S : zS} {x0 : Nat} {x1 : Int32} {x2 : Int32} {x3 : Int32} (h : lX8_heirs_13 N S x0 x1 x2 x3 = some (r, T)) : zWt D cy A p l e { frames := 2, cells := 0, slots := 0, locals := 42 } s m args below meth c z 0 0 0 0 (zQ D cy A T z (some (.int r))) S 5 13 [(0, .ref x0), (1, .int x1), (2, .int x2), (3, .int x3)] [] := by
  unfold lX8_heirs_13 at h
  refine zloop_ind (P := fun y => zWt D cy A p l e { frames := 2, cells := 0, slots := 0, locals := 42 } s m args below meth c z 0 0 0 0 (zQ D cy A T z (some (.int r))) y.1 5 13 [(0, .ref y.2.1), (1, .int y.2.2.1), (2, .int y.2.2.2.1), (3, .int y.2.2.2.2)] []) ?_ N (S, x0, x1, x2, x3) h
  intro K hK y hy
  obtain ⟨S, x0, x1, x2, x3⟩ := y
  exact wX8_heirs_13 X (fun S x0 x1 x2 x3 hq => hK (S, x0, x1, x2, x3) hq) hy
set_option maxRecDepth 100000 in
set_option maxHeartbeats 4000000 in
theorem wX8_heirs_0 {z : Nat} {N : Nat} {r : Int32} {T : zS} (X : zX D cy p s m meth c cX8_heirs 5 RX8 (some .int))  {S : zS} {x0 : Nat} {x1 : Int32} (h : fX8_heirs_0 N S x0 x1 = some (r, T)) : zWt D cy A p l e { frames := 2, cells := 0, slots := 0, locals := 42 } s m args below meth c z 0 0 0 0 (zQ D cy A T z (some (.int r))) S 5 0 [(0, .ref x0), (1, .int x1)] [] := by
  obtain ⟨hx, hb, hml, hown, hr, hlocks, hT⟩ := id X
  intro H locs ls hH hS hl
  unfold fX8_heirs_0 at h
  refine lv_iload_n hx hb dX8_heirs_0 rfl (lv_at hl 1 rfl) ?_
  obtain ⟨v7, S6, eS6, h⟩ := zb2_some h
  refine z_cS (As := [.int x1]) X hl hH hS mlX8_218 (kX8_isMaker eS6) rfl rfl (Nat.le_of_ble_eq_true rfl) ⟨rfl, rfl, Nat.le_of_ble_eq_true rfl, Nat.le_of_ble_eq_true rfl⟩ ⟨Nat.le_refl _, Nat.le_refl _⟩ dX8_heirs_1 (fun H locs hH hS => ?_)
  refine lv_if_ne (tgt := 9) hx hb dX8_heirs_4 (by decide) (fun c => ?_) (fun c => ?_)
  · have h := (if_neg c).symm.trans h
    refine lv_iconst (v := (0 : Int32)) hx hb dX8_heirs_9 (by decide) ?_
    refine lv_istore_n (lv' := [(2, .int (0 : Int32)), (0, .ref x0), (1, .int x1)]) hx hb dX8_heirs_10 rfl hl (by decide) rfl (fun ls hl => ?_)
    refine lv_iconst (v := (0 : Int32)) hx hb dX8_heirs_11 (by decide) ?_
    refine lv_istore_n (lv' := [(3, .int (0 : Int32)), (2, .int (0 : Int32)), (0, .ref x0), (1, .int x1)]) hx hb dX8_heirs_12 rfl hl (by decide) rfl (fun ls hl => ?_)
    exact uX8_heirs_13 X h _ _ _ hH hS (lv_sub hl [2, 3, 1, 0] rfl)
  · have h := (if_pos c).symm.trans h
    refine lv_iconst (v := (-1 : Int32)) hx hb dX8_heirs_7 (by decide) ?_
    exact z_iret X hH hS h dX8_heirs_8
set_option maxRecDepth 100000 in
theorem kX8_heirs {N : Nat} {r : Int32} {T : zS} {S : zS} {z : Nat} {x0 : Nat} {x1 : Int32} (h : fX8_heirs N S x0 x1 = some (r, T)) : Met l yX8_heirs [.code yX8_heirs cX8_heirs 5 (some .int)] { frames := 2, cells := 0, slots := 0, locals := 42 } (zP D cy A S z [.ref x0, .int x1]) (zQ D cy A T z (some (.int r))) 0 0 A := by
  refine z_met (lv := [(0, .ref x0), (1, .int x1)]) (by decide) (Nat.le_of_ble_eq_true rfl) rfl ?_
  intro p e s m below meth c X H locs ls hH hS hl
  exact wX8_heirs_0 X h _ _ _ hH hS (lv_sub hl [0, 1] rfl)
set_option maxRecDepth 100000 in
set_option maxHeartbeats 4000000 in
theorem wX8_count_146 {z : Nat} {N : Nat} {r : Int32} {T : zS} (X : zX D cy p s m meth c cX8_count 4 RX8 (some .int)) {K123 : zS × Nat × Int32 × Int32 → Option (Int32 × zS)} (hK123 : ∀ (S : zS) (x0 : Nat) (x2 : Int32) (x3 : Int32), K123 (S, x0, x2, x3) = some (r, T) → zWt D cy A p l e { frames := 0, cells := 0, slots := 0, locals := 0 } s m args below meth c z 0 0 0 0 (zQ D cy A T z (some (.int r))) S 4 123 [(0, .ref x0), (2, .int x2), (3, .int x3)] []) {S : zS} {x0 : Nat} {x3 : Int32} {y0 : Int32} {y1 : Int32} (h : fX8_count_146 N K123 S x0 x3 y0 y1 = some (r, T)) : zWt D cy A p l e { frames := 0, cells := 0, slots := 0, locals := 0 } s m args below meth c z 0 0 0 0 (zQ D cy A T z (some (.int r))) S 4 146 [(0, .ref x0), (3, .int x3)] [.int y1, .int y0] := by
  obtain ⟨hx, hb, hml, hown, hr, hlocks, hT⟩ := id X
  intro H locs ls hH hS hl
  unfold fX8_count_146 at h
  refine lv_iadd hx hb dX8_count_146 ?_
  refine lv_istore_n (lv' := [(2, .int (y0 + y1)), (0, .ref x0), (3, .int x3)]) hx hb dX8_count_147 rfl hl (by decide) rfl (fun ls hl => ?_)
  refine lv_iinc (v := (x3 + (1 : Int32))) (lv' := [(3, .int (x3 + (1 : Int32))), (2, .int (y0 + y1)), (0, .ref x0)]) hx hb dX8_count_148 hl (k := 2) rfl (z_ii (by decide) _) (by decide) rfl (fun ls hl => ?_)
  refine lv_goto (tgt := 123) hx hb dX8_count_151 (by decide) ?_
  exact hK123 _ _ _ _ h _ _ _ hH hS (lv_sub hl [2, 1, 0] rfl)
set_option maxRecDepth 100000 in
set_option maxHeartbeats 4000000 in
theorem wX8_count_123 {z : Nat} {N : Nat} {r : Int32} {T : zS} (X : zX D cy p s m meth c cX8_count 4 RX8 (some .int)) {K123 : zS × Nat × Int32 × Int32 → Option (Int32 × zS)} (hK123 : ∀ (S : zS) (x0 : Nat) (x2 : Int32) (x3 : Int32), K123 (S, x0, x2, x3) = some (r, T) → zWt D cy A p l e { frames := 0, cells := 0, slots := 0, locals := 0 } s m args below meth c z 0 0 0 0 (zQ D cy A T z (some (.int r))) S 4 123 [(0, .ref x0), (2, .int x2), (3, .int x3)] []) {S : zS} {x0 : Nat} {x2 : Int32} {x3 : Int32} (h : fX8_count_123 N K123 S x0 x2 x3 = some (r, T)) : zWt D cy A p l e { frames := 0, cells := 0, slots := 0, locals := 0 } s m args below meth c z 0 0 0 0 (zQ D cy A T z (some (.int r))) S 4 123 [(0, .ref x0), (2, .int x2), (3, .int x3)] [] := by
  obtain ⟨hx, hb, hml, hown, hr, hlocks, hT⟩ := id X
  intro H locs ls hH hS hl
  unfold fX8_count_123 at h
  refine lv_iload_n hx hb dX8_count_123 rfl (lv_at hl 2 rfl) ?_
  refine lv_aload_n hx hb dX8_count_124 rfl (lv_at hl 0 rfl) ?_
  obtain ⟨v1, ev1, h⟩ := zb_some h
  refine z_geti X flX8_106 hH ev1 dX8_count_125 ?_
  refine lv_icmp_ge (tgt := 154) hx hb dX8_count_128 (by decide) (fun c => ?_) (fun c => ?_)
  · have h := (if_pos c).symm.trans h
    refine lv_iload_n hx hb dX8_count_154 rfl (lv_at hl 1 rfl) ?_
    exact z_iret X hH hS h dX8_count_155
  · have h := (if_neg c).symm.trans h
    refine lv_iload_n hx hb dX8_count_131 rfl (lv_at hl 1 rfl) ?_
    refine lv_aload_n hx hb dX8_count_132 rfl (lv_at hl 0 rfl) ?_
    obtain ⟨v2, ev2, h⟩ := zb_some h
    refine z_getr X flX8_19 hH ev2 dX8_count_133 ?_
    refine lv_iload_n hx hb dX8_count_136 rfl (lv_at hl 2 rfl) ?_
    obtain ⟨v3, ev3, h⟩ := zb_some h
    refine z_zald X hH ev3 dX8_count_137 ?_
    refine lv_if_eq (tgt := 145) hx hb dX8_count_138 (by decide) (fun c => ?_) (fun c => ?_)
    · have h := (if_pos c).symm.trans h
      refine lv_iconst (v := (0 : Int32)) hx hb dX8_count_145 (by decide) ?_
      exact wX8_count_146 X hK123 h _ _ _ hH hS (lv_sub hl [0, 2] rfl)
    · have h := (if_neg c).symm.trans h
      refine lv_iconst (v := (1 : Int32)) hx hb dX8_count_141 (by decide) ?_
      refine lv_goto (tgt := 146) hx hb dX8_count_142 (by decide) ?_
      exact wX8_count_146 X hK123 h _ _ _ hH hS (lv_sub hl [0, 2] rfl)
set_option maxRecDepth 100000 in
set_option maxHeartbeats 4000000 in
theorem uX8_count_123 {z : Nat} {N : Nat} {r : Int32} {T : zS} (X : zX D cy p s m meth c cX8_count 4 RX8 (some .int))  {S : zS} {x0 : Nat} {x2 : Int32} {x3 : Int32} (h : lX8_count_123 N S x0 x2 x3 = some (r, T)) : zWt D cy A p l e { frames := 0, cells := 0, slots := 0, locals := 0 } s m args below meth c z 0 0 0 0 (zQ D cy A T z (some (.int r))) S 4 123 [(0, .ref x0), (2, .int x2), (3, .int x3)] [] := by
  unfold lX8_count_123 at h
  refine zloop_ind (P := fun y => zWt D cy A p l e { frames := 0, cells := 0, slots := 0, locals := 0 } s m args below meth c z 0 0 0 0 (zQ D cy A T z (some (.int r))) y.1 4 123 [(0, .ref y.2.1), (2, .int y.2.2.1), (3, .int y.2.2.2)] []) ?_ N (S, x0, x2, x3) h
  intro K hK y hy
  obtain ⟨S, x0, x2, x3⟩ := y
  exact wX8_count_123 X (fun S x0 x2 x3 hq => hK (S, x0, x2, x3) hq) hy
set_option maxRecDepth 100000 in
set_option maxHeartbeats 4000000 in
theorem wX8_count_106 {z : Nat} {N : Nat} {r : Int32} {T : zS} (X : zX D cy p s m meth c cX8_count 4 RX8 (some .int)) {K85 : zS × Nat × Int32 × Int32 → Option (Int32 × zS)} (hK85 : ∀ (S : zS) (x0 : Nat) (x2 : Int32) (x3 : Int32), K85 (S, x0, x2, x3) = some (r, T) → zWt D cy A p l e { frames := 0, cells := 0, slots := 0, locals := 0 } s m args below meth c z 0 0 0 0 (zQ D cy A T z (some (.int r))) S 4 85 [(0, .ref x0), (2, .int x2), (3, .int x3)] []) {S : zS} {x0 : Nat} {x3 : Int32} {y0 : Int32} {y1 : Int32} (h : fX8_count_106 N K85 S x0 x3 y0 y1 = some (r, T)) : zWt D cy A p l e { frames := 0, cells := 0, slots := 0, locals := 0 } s m args below meth c z 0 0 0 0 (zQ D cy A T z (some (.int r))) S 4 106 [(0, .ref x0), (3, .int x3)] [.int y1, .int y0] := by
  obtain ⟨hx, hb, hml, hown, hr, hlocks, hT⟩ := id X
  intro H locs ls hH hS hl
  unfold fX8_count_106 at h
  refine lv_iadd hx hb dX8_count_106 ?_
  refine lv_istore_n (lv' := [(2, .int (y0 + y1)), (0, .ref x0), (3, .int x3)]) hx hb dX8_count_107 rfl hl (by decide) rfl (fun ls hl => ?_)
  refine lv_iinc (v := (x3 + (1 : Int32))) (lv' := [(3, .int (x3 + (1 : Int32))), (2, .int (y0 + y1)), (0, .ref x0)]) hx hb dX8_count_108 hl (k := 2) rfl (z_ii (by decide) _) (by decide) rfl (fun ls hl => ?_)
  refine lv_goto (tgt := 85) hx hb dX8_count_111 (by decide) ?_
  exact hK85 _ _ _ _ h _ _ _ hH hS (lv_sub hl [2, 1, 0] rfl)
set_option maxRecDepth 100000 in
set_option maxHeartbeats 4000000 in
theorem wX8_count_85 {z : Nat} {N : Nat} {r : Int32} {T : zS} (X : zX D cy p s m meth c cX8_count 4 RX8 (some .int)) {K85 : zS × Nat × Int32 × Int32 → Option (Int32 × zS)} (hK85 : ∀ (S : zS) (x0 : Nat) (x2 : Int32) (x3 : Int32), K85 (S, x0, x2, x3) = some (r, T) → zWt D cy A p l e { frames := 0, cells := 0, slots := 0, locals := 0 } s m args below meth c z 0 0 0 0 (zQ D cy A T z (some (.int r))) S 4 85 [(0, .ref x0), (2, .int x2), (3, .int x3)] []) {S : zS} {x0 : Nat} {x2 : Int32} {x3 : Int32} (h : fX8_count_85 N K85 S x0 x2 x3 = some (r, T)) : zWt D cy A p l e { frames := 0, cells := 0, slots := 0, locals := 0 } s m args below meth c z 0 0 0 0 (zQ D cy A T z (some (.int r))) S 4 85 [(0, .ref x0), (2, .int x2), (3, .int x3)] [] := by
  obtain ⟨hx, hb, hml, hown, hr, hlocks, hT⟩ := id X
  intro H locs ls hH hS hl
  unfold fX8_count_85 at h
  refine lv_iload_n hx hb dX8_count_85 rfl (lv_at hl 2 rfl) ?_
  refine lv_bipush (v := (30 : Int32)) hx hb dX8_count_86 (by decide) ?_
  refine lv_icmp_ge (tgt := 114) hx hb dX8_count_88 (by decide) (fun c => ?_) (fun c => ?_)
  · have h := (if_pos c).symm.trans h
    refine lv_iload_n hx hb dX8_count_114 rfl (lv_at hl 1 rfl) ?_
    exact z_iret X hH hS h dX8_count_115
  · have h := (if_neg c).symm.trans h
    refine lv_iload_n hx hb dX8_count_91 rfl (lv_at hl 1 rfl) ?_
    refine lv_aload_n hx hb dX8_count_92 rfl (lv_at hl 0 rfl) ?_
    obtain ⟨v4, ev4, h⟩ := zb_some h
    refine z_getr X flX8_86 hH ev4 dX8_count_93 ?_
    refine lv_iload_n hx hb dX8_count_96 rfl (lv_at hl 2 rfl) ?_
    obtain ⟨v5, ev5, h⟩ := zb_some h
    refine z_zald X hH ev5 dX8_count_97 ?_
    refine lv_if_eq (tgt := 105) hx hb dX8_count_98 (by decide) (fun c => ?_) (fun c => ?_)
    · have h := (if_pos c).symm.trans h
      refine lv_iconst (v := (0 : Int32)) hx hb dX8_count_105 (by decide) ?_
      exact wX8_count_106 X hK85 h _ _ _ hH hS (lv_sub hl [0, 2] rfl)
    · have h := (if_neg c).symm.trans h
      refine lv_iconst (v := (1 : Int32)) hx hb dX8_count_101 (by decide) ?_
      refine lv_goto (tgt := 106) hx hb dX8_count_102 (by decide) ?_
      exact wX8_count_106 X hK85 h _ _ _ hH hS (lv_sub hl [0, 2] rfl)
set_option maxRecDepth 100000 in
set_option maxHeartbeats 4000000 in
theorem uX8_count_85 {z : Nat} {N : Nat} {r : Int32} {T : zS} (X : zX D cy p s m meth c cX8_count 4 RX8 (some .int))  {S : zS} {x0 : Nat} {x2 : Int32} {x3 : Int32} (h : lX8_count_85 N S x0 x2 x3 = some (r, T)) : zWt D cy A p l e { frames := 0, cells := 0, slots := 0, locals := 0 } s m args below meth c z 0 0 0 0 (zQ D cy A T z (some (.int r))) S 4 85 [(0, .ref x0), (2, .int x2), (3, .int x3)] [] := by
  unfold lX8_count_85 at h
  refine zloop_ind (P := fun y => zWt D cy A p l e { frames := 0, cells := 0, slots := 0, locals := 0 } s m args below meth c z 0 0 0 0 (zQ D cy A T z (some (.int r))) y.1 4 85 [(0, .ref y.2.1), (2, .int y.2.2.1), (3, .int y.2.2.2)] []) ?_ N (S, x0, x2, x3) h
  intro K hK y hy
  obtain ⟨S, x0, x2, x3⟩ := y
  exact wX8_count_85 X (fun S x0 x2 x3 hq => hK (S, x0, x2, x3) hq) hy
set_option maxRecDepth 100000 in
set_option maxHeartbeats 4000000 in
theorem wX8_count_73 {z : Nat} {N : Nat} {r : Int32} {T : zS} (X : zX D cy p s m meth c cX8_count 4 RX8 (some .int)) {K52 : zS × Nat × Int32 × Int32 → Option (Int32 × zS)} (hK52 : ∀ (S : zS) (x0 : Nat) (x2 : Int32) (x3 : Int32), K52 (S, x0, x2, x3) = some (r, T) → zWt D cy A p l e { frames := 0, cells := 0, slots := 0, locals := 0 } s m args below meth c z 0 0 0 0 (zQ D cy A T z (some (.int r))) S 4 52 [(0, .ref x0), (2, .int x2), (3, .int x3)] []) {S : zS} {x0 : Nat} {x3 : Int32} {y0 : Int32} {y1 : Int32} (h : fX8_count_73 N K52 S x0 x3 y0 y1 = some (r, T)) : zWt D cy A p l e { frames := 0, cells := 0, slots := 0, locals := 0 } s m args below meth c z 0 0 0 0 (zQ D cy A T z (some (.int r))) S 4 73 [(0, .ref x0), (3, .int x3)] [.int y1, .int y0] := by
  obtain ⟨hx, hb, hml, hown, hr, hlocks, hT⟩ := id X
  intro H locs ls hH hS hl
  unfold fX8_count_73 at h
  refine lv_iadd hx hb dX8_count_73 ?_
  refine lv_istore_n (lv' := [(2, .int (y0 + y1)), (0, .ref x0), (3, .int x3)]) hx hb dX8_count_74 rfl hl (by decide) rfl (fun ls hl => ?_)
  refine lv_iinc (v := (x3 + (1 : Int32))) (lv' := [(3, .int (x3 + (1 : Int32))), (2, .int (y0 + y1)), (0, .ref x0)]) hx hb dX8_count_75 hl (k := 2) rfl (z_ii (by decide) _) (by decide) rfl (fun ls hl => ?_)
  refine lv_goto (tgt := 52) hx hb dX8_count_78 (by decide) ?_
  exact hK52 _ _ _ _ h _ _ _ hH hS (lv_sub hl [2, 1, 0] rfl)
set_option maxRecDepth 100000 in
set_option maxHeartbeats 4000000 in
theorem wX8_count_52 {z : Nat} {N : Nat} {r : Int32} {T : zS} (X : zX D cy p s m meth c cX8_count 4 RX8 (some .int)) {K52 : zS × Nat × Int32 × Int32 → Option (Int32 × zS)} (hK52 : ∀ (S : zS) (x0 : Nat) (x2 : Int32) (x3 : Int32), K52 (S, x0, x2, x3) = some (r, T) → zWt D cy A p l e { frames := 0, cells := 0, slots := 0, locals := 0 } s m args below meth c z 0 0 0 0 (zQ D cy A T z (some (.int r))) S 4 52 [(0, .ref x0), (2, .int x2), (3, .int x3)] []) {S : zS} {x0 : Nat} {x2 : Int32} {x3 : Int32} (h : fX8_count_52 N K52 S x0 x2 x3 = some (r, T)) : zWt D cy A p l e { frames := 0, cells := 0, slots := 0, locals := 0 } s m args below meth c z 0 0 0 0 (zQ D cy A T z (some (.int r))) S 4 52 [(0, .ref x0), (2, .int x2), (3, .int x3)] [] := by
  obtain ⟨hx, hb, hml, hown, hr, hlocks, hT⟩ := id X
  intro H locs ls hH hS hl
  unfold fX8_count_52 at h
  refine lv_iload_n hx hb dX8_count_52 rfl (lv_at hl 2 rfl) ?_
  refine lv_bipush (v := (30 : Int32)) hx hb dX8_count_53 (by decide) ?_
  refine lv_icmp_ge (tgt := 81) hx hb dX8_count_55 (by decide) (fun c => ?_) (fun c => ?_)
  · have h := (if_pos c).symm.trans h
    refine lv_iload_n hx hb dX8_count_81 rfl (lv_at hl 1 rfl) ?_
    exact z_iret X hH hS h dX8_count_82
  · have h := (if_neg c).symm.trans h
    refine lv_iload_n hx hb dX8_count_58 rfl (lv_at hl 1 rfl) ?_
    refine lv_aload_n hx hb dX8_count_59 rfl (lv_at hl 0 rfl) ?_
    obtain ⟨v6, ev6, h⟩ := zb_some h
    refine z_getr X flX8_80 hH ev6 dX8_count_60 ?_
    refine lv_iload_n hx hb dX8_count_63 rfl (lv_at hl 2 rfl) ?_
    obtain ⟨v7, ev7, h⟩ := zb_some h
    refine z_iald X hH ev7 dX8_count_64 ?_
    refine lv_if_ge (tgt := 72) hx hb dX8_count_65 (by decide) (fun c => ?_) (fun c => ?_)
    · have h := (if_pos c).symm.trans h
      refine lv_iconst (v := (0 : Int32)) hx hb dX8_count_72 (by decide) ?_
      exact wX8_count_73 X hK52 h _ _ _ hH hS (lv_sub hl [0, 2] rfl)
    · have h := (if_neg c).symm.trans h
      refine lv_iconst (v := (1 : Int32)) hx hb dX8_count_68 (by decide) ?_
      refine lv_goto (tgt := 73) hx hb dX8_count_69 (by decide) ?_
      exact wX8_count_73 X hK52 h _ _ _ hH hS (lv_sub hl [0, 2] rfl)
set_option maxRecDepth 100000 in
set_option maxHeartbeats 4000000 in
theorem uX8_count_52 {z : Nat} {N : Nat} {r : Int32} {T : zS} (X : zX D cy p s m meth c cX8_count 4 RX8 (some .int))  {S : zS} {x0 : Nat} {x2 : Int32} {x3 : Int32} (h : lX8_count_52 N S x0 x2 x3 = some (r, T)) : zWt D cy A p l e { frames := 0, cells := 0, slots := 0, locals := 0 } s m args below meth c z 0 0 0 0 (zQ D cy A T z (some (.int r))) S 4 52 [(0, .ref x0), (2, .int x2), (3, .int x3)] [] := by
  unfold lX8_count_52 at h
  refine zloop_ind (P := fun y => zWt D cy A p l e { frames := 0, cells := 0, slots := 0, locals := 0 } s m args below meth c z 0 0 0 0 (zQ D cy A T z (some (.int r))) y.1 4 52 [(0, .ref y.2.1), (2, .int y.2.2.1), (3, .int y.2.2.2)] []) ?_ N (S, x0, x2, x3) h
  intro K hK y hy
  obtain ⟨S, x0, x2, x3⟩ := y
  exact wX8_count_52 X (fun S x0 x2 x3 hq => hK (S, x0, x2, x3) hq) hy
set_option maxRecDepth 100000 in
set_option maxHeartbeats 4000000 in
theorem wX8_count_0 {z : Nat} {N : Nat} {r : Int32} {T : zS} (X : zX D cy p s m meth c cX8_count 4 RX8 (some .int))  {S : zS} {x0 : Nat} {x1 : Int32} (h : fX8_count_0 N S x0 x1 = some (r, T)) : zWt D cy A p l e { frames := 0, cells := 0, slots := 0, locals := 0 } s m args below meth c z 0 0 0 0 (zQ D cy A T z (some (.int r))) S 4 0 [(0, .ref x0), (1, .int x1)] [] := by
  obtain ⟨hx, hb, hml, hown, hr, hlocks, hT⟩ := id X
  intro H locs ls hH hS hl
  unfold fX8_count_0 at h
  refine lv_iconst (v := (0 : Int32)) hx hb dX8_count_0 (by decide) ?_
  refine lv_istore_n (lv' := [(2, .int (0 : Int32)), (0, .ref x0), (1, .int x1)]) hx hb dX8_count_1 rfl hl (by decide) rfl (fun ls hl => ?_)
  refine lv_iload_n hx hb dX8_count_2 rfl (lv_at hl 2 rfl) ?_
  by_cases c0 : x1 = (0 : Int32)
  · have h := (if_pos c0).symm.trans h
    refine lv_tableIn (tgt := 40) hx hb dX8_count_3 (by rw [c0]; decide) (by rw [c0]; decide) (by rw [c0]; rfl) (by decide) ?_
    refine lv_aload_n hx hb dX8_count_40 rfl (lv_at hl 1 rfl) ?_
    obtain ⟨v8, ev8, h⟩ := zb_some h
    refine z_geti X flX8_106 hH ev8 dX8_count_41 ?_
    exact z_iret X hH hS h dX8_count_44
  have h := (if_neg c0).symm.trans h
  by_cases c1 : x1 = (1 : Int32)
  · have h := (if_pos c1).symm.trans h
    refine lv_tableIn (tgt := 45) hx hb dX8_count_3 (by rw [c1]; decide) (by rw [c1]; decide) (by rw [c1]; rfl) (by decide) ?_
    refine lv_aload_n hx hb dX8_count_45 rfl (lv_at hl 1 rfl) ?_
    obtain ⟨v9, ev9, h⟩ := zb_some h
    refine z_geti X flX8_113 hH ev9 dX8_count_46 ?_
    exact z_iret X hH hS h dX8_count_49
  have h := (if_neg c1).symm.trans h
  by_cases c2 : x1 = (2 : Int32)
  · have h := (if_pos c2).symm.trans h
    refine lv_tableIn (tgt := 50) hx hb dX8_count_3 (by rw [c2]; decide) (by rw [c2]; decide) (by rw [c2]; rfl) (by decide) ?_
    refine lv_iconst (v := (0 : Int32)) hx hb dX8_count_50 (by decide) ?_
    refine lv_istore_n (lv' := [(3, .int (0 : Int32)), (2, .int (0 : Int32)), (0, .ref x0), (1, .int x1)]) hx hb dX8_count_51 rfl hl (by decide) rfl (fun ls hl => ?_)
    exact uX8_count_52 X h _ _ _ hH hS (lv_sub hl [2, 1, 0] rfl)
  have h := (if_neg c2).symm.trans h
  by_cases c3 : x1 = (3 : Int32)
  · have h := (if_pos c3).symm.trans h
    refine lv_tableIn (tgt := 83) hx hb dX8_count_3 (by rw [c3]; decide) (by rw [c3]; decide) (by rw [c3]; rfl) (by decide) ?_
    refine lv_iconst (v := (0 : Int32)) hx hb dX8_count_83 (by decide) ?_
    refine lv_istore_n (lv' := [(3, .int (0 : Int32)), (2, .int (0 : Int32)), (0, .ref x0), (1, .int x1)]) hx hb dX8_count_84 rfl hl (by decide) rfl (fun ls hl => ?_)
    exact uX8_count_85 X h _ _ _ hH hS (lv_sub hl [2, 1, 0] rfl)
  have h := (if_neg c3).symm.trans h
  by_cases c4 : x1 = (4 : Int32)
  · have h := (if_pos c4).symm.trans h
    refine lv_tableIn (tgt := 116) hx hb dX8_count_3 (by rw [c4]; decide) (by rw [c4]; decide) (by rw [c4]; rfl) (by decide) ?_
    refine lv_aload_n hx hb dX8_count_116 rfl (lv_at hl 1 rfl) ?_
    obtain ⟨v10, ev10, h⟩ := zb_some h
    refine z_geti X flX8_103 hH ev10 dX8_count_117 ?_
    exact z_iret X hH hS h dX8_count_120
  have h := (if_neg c4).symm.trans h
  by_cases c5 : x1 = (5 : Int32)
  · have h := (if_pos c5).symm.trans h
    refine lv_tableIn (tgt := 121) hx hb dX8_count_3 (by rw [c5]; decide) (by rw [c5]; decide) (by rw [c5]; rfl) (by decide) ?_
    refine lv_iconst (v := (0 : Int32)) hx hb dX8_count_121 (by decide) ?_
    refine lv_istore_n (lv' := [(3, .int (0 : Int32)), (2, .int (0 : Int32)), (0, .ref x0), (1, .int x1)]) hx hb dX8_count_122 rfl hl (by decide) rfl (fun ls hl => ?_)
    exact uX8_count_123 X h _ _ _ hH hS (lv_sub hl [2, 1, 0] rfl)
  have h := (if_neg c5).symm.trans h
  refine lv_tableOut (tgt := 156) hx hb dX8_count_3 (by have := lv_neT c0 (a := 0) (by decide); have := lv_neT c1 (a := 1) (by decide); have := lv_neT c2 (a := 2) (by decide); have := lv_neT c3 (a := 3) (by decide); have := lv_neT c4 (a := 4) (by decide); have := lv_neT c5 (a := 5) (by decide); omega) (by decide) ?_
  refine lv_iconst (v := (-1 : Int32)) hx hb dX8_count_156 (by decide) ?_
  exact z_iret X hH hS h dX8_count_157
set_option maxRecDepth 100000 in
theorem kX8_count {N : Nat} {r : Int32} {T : zS} {S : zS} {z : Nat} {x0 : Nat} {x1 : Int32} (h : fX8_count N S x0 x1 = some (r, T)) : Met l yX8_count [.code yX8_count cX8_count 4 (some .int)] { frames := 0, cells := 0, slots := 0, locals := 0 } (zP D cy A S z [.ref x0, .int x1]) (zQ D cy A T z (some (.int r))) 0 0 A := by
  refine z_met (lv := [(0, .ref x0), (1, .int x1)]) (by decide) (Nat.le_of_ble_eq_true rfl) rfl ?_
  intro p e s m below meth c X H locs ls hH hS hl
  exact wX8_count_0 X h _ _ _ hH hS (lv_sub hl [0, 1] rfl)
end
