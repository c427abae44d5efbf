section
variable {D : va_G} {cy : Nat → ClassId} {A : Nat → Prop} {p : Program} {l : Launch} {e : Env} {s : State} {m : MethodId} {args : Array Value} {below : List Frame} {meth : Method} {c : Code}
set_option maxRecDepth 100000 in
set_option maxHeartbeats 4000000 in
theorem wX8_heirs_46 {z : Nat} {N : Nat} {r : Int32} {T : zS} (X : zX D cy p s m meth c cX8_heirs 5 RX8 (some .int)) {K13 : zS × Nat × Int32 × Int32 × Int32 → Option (Int32 × zS)} (hK13 : ∀ (S : zS) (x0 : Nat) (x1 : Int32) (x2 : Int32) (x3 : Int32), K13 (S, x0, x1, x2, x3) = some (r, T) → zWt D cy A p l e { frames := 2, cells := 0, slots := 0, locals := 42 } s m args below meth c z 0 0 0 0 (zQ D cy A T z (some (.int r))) S 5 13 [(0, .ref x0), (1, .int x1), (2, .int x2), (3, .int x3)] []) {S : zS} {x0 : Nat} {x1 : Int32} {x3 : Int32} {y0 : Int32} {y1 : Int32} (h : fX8_heirs_46 N K13 S x0 x1 x3 y0 y1 = some (r, T)) : zWt D cy A p l e { frames := 2, cells := 0, slots := 0, locals := 42 } s m args below meth c z 0 0 0 0 (zQ D cy A T z (some (.int r))) S 5 46 [(0, .ref x0), (1, .int x1), (3, .int x3)] [.int y1, .int y0] := by
  obtain ⟨hx, hb, hml, hown, hr, hlocks, hT⟩ := id X
  intro H locs ls hH hS hl
  unfold fX8_heirs_46 at h
  refine lv_iadd hx hb dX8_heirs_46 ?_
  refine lv_istore_n (lv' := [(2, .int (y0 + y1)), (0, .ref x0), (1, .int x1), (3, .int x3)]) hx hb dX8_heirs_47 rfl hl (by decide) rfl (fun ls hl => ?_)
  refine lv_iinc (v := (x3 + (1 : Int32))) (lv' := [(3, .int (x3 + (1 : Int32))), (2, .int (y0 + y1)), (0, .ref x0), (1, .int x1)]) hx hb dX8_heirs_48 hl (k := 3) rfl rfl (by decide) rfl (fun ls hl => ?_)
  refine lv_goto (tgt := 13) hx hb dX8_heirs_51 (by decide) ?_
  exact hK13 _ _ _ _ _ h _ _ _ hH hS (lv_sub hl [2, 3, 1, 0] rfl)
set_option maxRecDepth 100000 in
set_option maxHeartbeats 4000000 in
theorem wX8_heirs_45 {z : Nat} {N : Nat} {r : Int32} {T : zS} (X : zX D cy p s m meth c cX8_heirs 5 RX8 (some .int)) {K13 : zS × Nat × Int32 × Int32 × Int32 → Option (Int32 × zS)} (hK13 : ∀ (S : zS) (x0 : Nat) (x1 : Int32) (x2 : Int32) (x3 : Int32), K13 (S, x0, x1, x2, x3) = some (r, T) → zWt D cy A p l e { frames := 2, cells := 0, slots := 0, locals := 42 } s m args below meth c z 0 0 0 0 (zQ D cy A T z (some (.int r))) S 5 13 [(0, .ref x0), (1, .int x1), (2, .int x2), (3, .int x3)] []) {S : zS} {x0 : Nat} {x1 : Int32} {x3 : Int32} {y0 : Int32} (h : fX8_heirs_45 N K13 S x0 x1 x3 y0 = some (r, T)) : zWt D cy A p l e { frames := 2, cells := 0, slots := 0, locals := 42 } s m args below meth c z 0 0 0 0 (zQ D cy A T z (some (.int r))) S 5 45 [(0, .ref x0), (1, .int x1), (3, .int x3)] [.int y0] := by
  obtain ⟨hx, hb, hml, hown, hr, hlocks, hT⟩ := id X
  intro H locs ls hH hS hl
  unfold fX8_heirs_45 at h
  refine lv_iconst (v := (0 : Int32)) hx hb dX8_heirs_45 (by decide) ?_
  exact wX8_heirs_46 X hK13 h _ _ _ hH hS (lv_sub hl [0, 1, 2] rfl)
set_option maxRecDepth 100000 in
set_option maxHeartbeats 4000000 in
theorem wX8_heirs_13 {z : Nat} {N : Nat} {r : Int32} {T : zS} (X : zX D cy p s m meth c cX8_heirs 5 RX8 (some .int)) {K13 : zS × Nat × Int32 × Int32 × Int32 → Option (Int32 × zS)} (hK13 : ∀ (S : zS) (x0 : Nat) (x1 : Int32) (x2 : Int32) (x3 : Int32), K13 (S, x0, x1, x2, x3) = some (r, T) → zWt D cy A p l e { frames := 2, cells := 0, slots := 0, locals := 42 } s m args below meth c z 0 0 0 0 (zQ D cy A T z (some (.int r))) S 5 13 [(0, .ref x0), (1, .int x1), (2, .int x2), (3, .int x3)] []) {S : zS} {x0 : Nat} {x1 : Int32} {x2 : Int32} {x3 : Int32} (h : fX8_heirs_13 N K13 S x0 x1 x2 x3 = some (r, T)) : zWt D cy A p l e { frames := 2, cells := 0, slots := 0, locals := 42 } s m args below meth c z 0 0 0 0 (zQ D cy A T z (some (.int r))) S 5 13 [(0, .ref x0), (1, .int x1), (2, .int x2), (3, .int x3)] [] := by
  obtain ⟨hx, hb, hml, hown, hr, hlocks, hT⟩ := id X
  intro H locs ls hH hS hl
  unfold fX8_heirs_13 at h
  refine lv_iload_n hx hb dX8_heirs_13 rfl (lv_at hl 3 rfl) ?_
  refine lv_bipush (v := (30 : Int32)) hx hb dX8_heirs_14 (by decide) ?_
  refine lv_icmp_ge (tgt := 54) hx hb dX8_heirs_16 (by decide) (fun c => ?_) (fun c => ?_)
  · have h := (if_pos c).symm.trans h
    refine lv_iload_n hx hb dX8_heirs_54 rfl (lv_at hl 2 rfl) ?_
    exact z_iret X hH hS h dX8_heirs_55
  · have h := (if_neg c).symm.trans h
    refine lv_aload_n hx hb dX8_heirs_19 rfl (lv_at hl 0 rfl) ?_
    refine lv_iload_n hx hb dX8_heirs_20 rfl (lv_at hl 3 rfl) ?_
    obtain ⟨u1, eu1, h⟩ := zb_some h
    obtain ⟨v3, S2, eS2, h⟩ := zb2_some h
    refine z_cV (As := [.int x3]) X hl hH hS mlX8_224 eu1 (kX8_walk eS2) rfl rfl (Nat.le_of_ble_eq_true rfl) ⟨rfl, rfl, Nat.le_of_ble_eq_true rfl, Nat.le_of_ble_eq_true rfl⟩ ⟨Nat.le_refl _, Nat.le_refl _⟩ dX8_heirs_21 (fun H locs hH hS => ?_)
    refine lv_istore (lv' := [(4, .int v3), (0, .ref x0), (1, .int x1), (2, .int x2), (3, .int x3)]) hx hb dX8_heirs_24 hl (by decide) rfl (fun ls hl => ?_)
    refine lv_iload_n hx hb dX8_heirs_26 rfl (lv_at hl 3 rfl) ?_
    refine lv_iload_n hx hb dX8_heirs_27 rfl (lv_at hl 4 rfl) ?_
    refine lv_iload_n hx hb dX8_heirs_28 rfl (lv_at hl 2 rfl) ?_
    refine lv_icmp_eq (tgt := 45) hx hb dX8_heirs_29 (by decide) (fun c => ?_) (fun c => ?_)
    · have h := (if_pos c).symm.trans h
      exact wX8_heirs_45 X hK13 h _ _ _ hH hS (lv_sub hl [1, 2, 4] rfl)
    · have h := (if_neg c).symm.trans h
      refine lv_aload_n hx hb dX8_heirs_32 rfl (lv_at hl 1 rfl) ?_
      obtain ⟨v4, ev4, h⟩ := zb_some h
      refine z_getr X flX8_89 hH ev4 dX8_heirs_33 ?_
      refine lv_iload_n hx hb dX8_heirs_36 rfl (lv_at hl 2 rfl) ?_
      obtain ⟨v5, ev5, h⟩ := zb_some h
      refine z_zald X hH ev5 dX8_heirs_37 ?_
      refine lv_if_eq (tgt := 45) hx hb dX8_heirs_38 (by decide) (fun c => ?_) (fun c => ?_)
      · have h := (if_pos c).symm.trans h
        exact wX8_heirs_45 X hK13 h _ _ _ hH hS (lv_sub hl [1, 2, 4] rfl)
      · have h := (if_neg c).symm.trans h
        refine lv_iconst (v := (1 : Int32)) hx hb dX8_heirs_41 (by decide) ?_
        refine lv_goto (tgt := 46) hx hb dX8_heirs_42 (by decide) ?_
        exact wX8_heirs_46 X hK13 h _ _ _ hH hS (lv_sub hl [1, 2, 4] rfl)
set_option maxRecDepth 100000 in
set_option maxHeartbeats 4000000 in
theorem uX8_heirs_13 {z : Nat} {N : Nat} {r : Int32} {T : zS} (X : zX D cy p s m meth c cX8_heirs 5 RX8 (some .int))  {S : zS} {x0 : Nat} {x1 : Int32} {x2 : Int32} {x3 : Int32} (h : lX8_heirs_13 N S x0 x1 x2 x3 = some (r, T)) : zWt D cy A p l e { frames := 2, cells := 0, slots := 0, locals := 42 } s m args below meth c z 0 0 0 0 (zQ D cy A T z (some (.int r))) S 5 13 [(0, .ref x0), (1, .int x1), (2, .int x2), (3, .int x3)] [] := by
  unfold lX8_heirs_13 at h
  exact zloop_ind (P := fun y => zWt D cy A p l e { frames := 2, cells := 0, slots := 0, locals := 42 } s m args below meth c z 0 0 0 0 (zQ D cy A T z (some (.int r))) y.1 5 13 [(0, .ref y.2.1), (1, .int y.2.2.1), (2, .int y.2.2.2.1), (3, .int y.2.2.2.2)] []) (fun K hK y hy => wX8_heirs_13 X (fun S x0 x1 x2 x3 hq => hK (S, x0, x1, x2, x3) hq) hy) N (S, x0, x1, x2, x3) h
set_option maxRecDepth 100000 in
set_option maxHeartbeats 4000000 in
theorem wX8_heirs_0 {z : Nat} {N : Nat} {r : Int32} {T : zS} (X : zX D cy p s m meth c cX8_heirs 5 RX8 (some .int))  {S : zS} {x0 : Nat} {x1 : Int32} (h : fX8_heirs_0 N S x0 x1 = some (r, T)) : zWt D cy A p l e { frames := 2, cells := 0, slots := 0, locals := 42 } s m args below meth c z 0 0 0 0 (zQ D cy A T z (some (.int r))) S 5 0 [(0, .ref x0), (1, .int x1)] [] := by
  obtain ⟨hx, hb, hml, hown, hr, hlocks, hT⟩ := id X
  intro H locs ls hH hS hl
  unfold fX8_heirs_0 at h
  refine lv_iload_n hx hb dX8_heirs_0 rfl (lv_at hl 1 rfl) ?_
  obtain ⟨v7, S6, eS6, h⟩ := zb2_some h
  refine z_cS (As := [.int x1]) X hl hH hS mlX8_218 (kX8_isMaker eS6) rfl rfl (Nat.le_of_ble_eq_true rfl) ⟨rfl, rfl, Nat.le_of_ble_eq_true rfl, Nat.le_of_ble_eq_true rfl⟩ ⟨Nat.le_refl _, Nat.le_refl _⟩ dX8_heirs_1 (fun H locs hH hS => ?_)
  refine lv_if_ne (tgt := 9) hx hb dX8_heirs_4 (by decide) (fun c => ?_) (fun c => ?_)
  · have h := (if_neg c).symm.trans h
    refine lv_iconst (v := (0 : Int32)) hx hb dX8_heirs_9 (by decide) ?_
    refine lv_istore_n (lv' := [(2, .int (0 : Int32)), (0, .ref x0), (1, .int x1)]) hx hb dX8_heirs_10 rfl hl (by decide) rfl (fun ls hl => ?_)
    refine lv_iconst (v := (0 : Int32)) hx hb dX8_heirs_11 (by decide) ?_
    refine lv_istore_n (lv' := [(3, .int (0 : Int32)), (2, .int (0 : Int32)), (0, .ref x0), (1, .int x1)]) hx hb dX8_heirs_12 rfl hl (by decide) rfl (fun ls hl => ?_)
    exact uX8_heirs_13 X h _ _ _ hH hS (lv_sub hl [2, 3, 1, 0] rfl)
  · have h := (if_pos c).symm.trans h
    refine lv_iconst (v := (-1 : Int32)) hx hb dX8_heirs_7 (by decide) ?_
    exact z_iret X hH hS h dX8_heirs_8
set_option maxRecDepth 100000 in
theorem kX8_heirs {N : Nat} {r : Int32} {T : zS} {S : zS} {z : Nat} {x0 : Nat} {x1 : Int32} (h : fX8_heirs N S x0 x1 = some (r, T)) : Met l yX8_heirs [.code yX8_heirs cX8_heirs 5 (some .int)] { frames := 2, cells := 0, slots := 0, locals := 42 } (zP D cy A S z [.ref x0, .int x1]) (zQ D cy A T z (some (.int r))) 0 0 A := by
  refine z_met (lv := [(0, .ref x0), (1, .int x1)]) (by decide) (Nat.le_of_ble_eq_true rfl) rfl ?_
  intro p e s m below meth c X H locs ls hH hS hl
  exact wX8_heirs_0 X h _ _ _ hH hS (lv_sub hl [0, 1] rfl)
set_option maxRecDepth 100000 in
set_option maxHeartbeats 4000000 in
theorem wX8_count_146 {z : Nat} {N : Nat} {r : Int32} {T : zS} (X : zX D cy p s m meth c cX8_count 4 RX8 (some .int)) {K123 : zS × Nat × Int32 × Int32 → Option (Int32 × zS)} (hK123 : ∀ (S : zS) (x0 : Nat) (x2 : Int32) (x3 : Int32), K123 (S, x0, x2, x3) = some (r, T) → zWt D cy A p l e { frames := 0, cells := 0, slots := 0, locals := 0 } s m args below meth c z 0 0 0 0 (zQ D cy A T z (some (.int r))) S 4 123 [(0, .ref x0), (2, .int x2), (3, .int x3)] []) {S : zS} {x0 : Nat} {x3 : Int32} {y0 : Int32} {y1 : Int32} (h : fX8_count_146 N K123 S x0 x3 y0 y1 = some (r, T)) : zWt D cy A p l e { frames := 0, cells := 0, slots := 0, locals := 0 } s m args below meth c z 0 0 0 0 (zQ D cy A T z (some (.int r))) S 4 146 [(0, .ref x0), (3, .int x3)] [.int y1, .int y0] := by
  obtain ⟨hx, hb, hml, hown, hr, hlocks, hT⟩ := id X
  intro H locs ls hH hS hl
  unfold fX8_count_146 at h
  refine lv_iadd hx hb dX8_count_146 ?_
  refine lv_istore_n (lv' := [(2, .int (y0 + y1)), (0, .ref x0), (3, .int x3)]) hx hb dX8_count_147 rfl hl (by decide) rfl (fun ls hl => ?_)
  refine lv_iinc (v := (x3 + (1 : Int32))) (lv' := [(3, .int (x3 + (1 : Int32))), (2, .int (y0 + y1)), (0, .ref x0)]) hx hb dX8_count_148 hl (k := 2) rfl rfl (by decide) rfl (fun ls hl => ?_)
  refine lv_goto (tgt := 123) hx hb dX8_count_151 (by decide) ?_
  exact hK123 _ _ _ _ h _ _ _ hH hS (lv_sub hl [2, 1, 0] rfl)
set_option maxRecDepth 100000 in
set_option maxHeartbeats 4000000 in
theorem wX8_count_123 {z : Nat} {N : Nat} {r : Int32} {T : zS} (X : zX D cy p s m meth c cX8_count 4 RX8 (some .int)) {K123 : zS × Nat × Int32 × Int32 → Option (Int32 × zS)} (hK123 : ∀ (S : zS) (x0 : Nat) (x2 : Int32) (x3 : Int32), K123 (S, x0, x2, x3) = some (r, T) → zWt D cy A p l e { frames := 0, cells := 0, slots := 0, locals := 0 } s m args below meth c z 0 0 0 0 (zQ D cy A T z (some (.int r))) S 4 123 [(0, .ref x0), (2, .int x2), (3, .int x3)] []) {S : zS} {x0 : Nat} {x2 : Int32} {x3 : Int32} (h : fX8_count_123 N K123 S x0 x2 x3 = some (r, T)) : zWt D cy A p l e { frames := 0, cells := 0, slots := 0, locals := 0 } s m args below meth c z 0 0 0 0 (zQ D cy A T z (some (.int r))) S 4 123 [(0, .ref x0), (2, .int x2), (3, .int x3)] [] := by
  obtain ⟨hx, hb, hml, hown, hr, hlocks, hT⟩ := id X
  intro H locs ls hH hS hl
  unfold fX8_count_123 at h
  refine lv_iload_n hx hb dX8_count_123 rfl (lv_at hl 2 rfl) ?_
  refine lv_aload_n hx hb dX8_count_124 rfl (lv_at hl 0 rfl) ?_
  obtain ⟨v1, ev1, h⟩ := zb_some h
  refine z_geti X flX8_106 hH ev1 dX8_count_125 ?_
  refine lv_icmp_ge (tgt := 154) hx hb dX8_count_128 (by decide) (fun c => ?_) (fun c => ?_)
  · have h := (if_pos c).symm.trans h
    refine lv_iload_n hx hb dX8_count_154 rfl (lv_at hl 1 rfl) ?_
    exact z_iret X hH hS h dX8_count_155
  · have h := (if_neg c).symm.trans h
    refine lv_iload_n hx hb dX8_count_131 rfl (lv_at hl 1 rfl) ?_
    refine lv_aload_n hx hb dX8_count_132 rfl (lv_at hl 0 rfl) ?_
    obtain ⟨v2, ev2, h⟩ := zb_some h
    refine z_getr X flX8_19 hH ev2 dX8_count_133 ?_
    refine lv_iload_n hx hb dX8_count_136 rfl (lv_at hl 2 rfl) ?_
    obtain ⟨v3, ev3, h⟩ := zb_some h
    refine z_zald X hH ev3 dX8_count_137 ?_
    refine lv_if_eq (tgt := 145) hx hb dX8_count_138 (by decide) (fun c => ?_) (fun c => ?_)
    · have h := (if_pos c).symm.trans h
      refine lv_iconst (v := (0 : Int32)) hx hb dX8_count_145 (by decide) ?_
      exact wX8_count_146 X hK123 h _ _ _ hH hS (lv_sub hl [0, 2] rfl)
    · have h := (if_neg c).symm.trans h
      refine lv_iconst (v := (1 : Int32)) hx hb dX8_count_141 (by decide) ?_
      refine lv_goto (tgt := 146) hx hb dX8_count_142 (by decide) ?_
      exact wX8_count_146 X hK123 h _ _ _ hH hS (lv_sub hl [0, 2] rfl)
set_option maxRecDepth 100000 in
set_option maxHeartbeats 4000000 in
theorem uX8_count_123 {z : Nat} {N : Nat} {r : Int32} {T : zS} (X : zX D cy p s m meth c cX8_count 4 RX8 (some .int))  {S : zS} {x0 : Nat} {x2 : Int32} {x3 : Int32} (h : lX8_count_123 N S x0 x2 x3 = some (r, T)) : zWt D cy A p l e { frames := 0, cells := 0, slots := 0, locals := 0 } s m args below meth c z 0 0 0 0 (zQ D cy A T z (some (.int r))) S 4 123 [(0, .ref x0), (2, .int x2), (3, .int x3)] [] := by
  unfold lX8_count_123 at h
  exact zloop_ind (P := fun y => zWt D cy A p l e { frames := 0, cells := 0, slots := 0, locals := 0 } s m args below meth c z 0 0 0 0 (zQ D cy A T z (some (.int r))) y.1 4 123 [(0, .ref y.2.1), (2, .int y.2.2.1), (3, .int y.2.2.2)] []) (fun K hK y hy => wX8_count_123 X (fun S x0 x2 x3 hq => hK (S, x0, x2, x3) hq) hy) N (S, x0, x2, x3) h
set_option maxRecDepth 100000 in
set_option maxHeartbeats 4000000 in
theorem wX8_count_106 {z : Nat} {N : Nat} {r : Int32} {T : zS} (X : zX D cy p s m meth c cX8_count 4 RX8 (some .int)) {K85 : zS × Nat × Int32 × Int32 → Option (Int32 × zS)} (hK85 : ∀ (S : zS) (x0 : Nat) (x2 : Int32) (x3 : Int32), K85 (S, x0, x2, x3) = some (r, T) → zWt D cy A p l e { frames := 0, cells := 0, slots := 0, locals := 0 } s m args below meth c z 0 0 0 0 (zQ D cy A T z (some (.int r))) S 4 85 [(0, .ref x0), (2, .int x2), (3, .int x3)] []) {S : zS} {x0 : Nat} {x3 : Int32} {y0 : Int32} {y1 : Int32} (h : fX8_count_106 N K85 S x0 x3 y0 y1 = some (r, T)) : zWt D cy A p l e { frames := 0, cells := 0, slots := 0, locals := 0 } s m args below meth c z 0 0 0 0 (zQ D cy A T z (some (.int r))) S 4 106 [(0, .ref x0), (3, .int x3)] [.int y1, .int y0] := by
  obtain ⟨hx, hb, hml, hown, hr, hlocks, hT⟩ := id X
  intro H locs ls hH hS hl
  unfold fX8_count_106 at h
  refine lv_iadd hx hb dX8_count_106 ?_
  refine lv_istore_n (lv' := [(2, .int (y0 + y1)), (0, .ref x0), (3, .int x3)]) hx hb dX8_count_107 rfl hl (by decide) rfl (fun ls hl => ?_)
  refine lv_iinc (v := (x3 + (1 : Int32))) (lv' := [(3, .int (x3 + (1 : Int32))), (2, .int (y0 + y1)), (0, .ref x0)]) hx hb dX8_count_108 hl (k := 2) rfl rfl (by decide) rfl (fun ls hl => ?_)
  refine lv_goto (tgt := 85) hx hb dX8_count_111 (by decide) ?_
  exact hK85 _ _ _ _ h _ _ _ hH hS (lv_sub hl [2, 1, 0] rfl)
set_option maxRecDepth 100000 in
set_option maxHeartbeats 4000000 in
theorem wX8_count_85 {z : Nat} {N : Nat} {r : Int32} {T : zS} (X : zX D cy p s m meth c cX8_count 4 RX8 (some .int)) {K85 : zS × Nat × Int32 × Int32 → Option (Int32 × zS)} (hK85 : ∀ (S : zS) (x0 : Nat) (x2 : Int32) (x3 : Int32), K85 (S, x0, x2, x3) = some (r, T) → zWt D cy A p l e { frames := 0, cells := 0, slots := 0, locals := 0 } s m args below meth c z 0 0 0 0 (zQ D cy A T z (some (.int r))) S 4 85 [(0, .ref x0), (2, .int x2), (3, .int x3)] []) {S : zS} {x0 : Nat} {x2 : Int32} {x3 : Int32} (h : fX8_count_85 N K85 S x0 x2 x3 = some (r, T)) : zWt D cy A p l e { frames := 0, cells := 0, slots := 0, locals := 0 } s m args below meth c z 0 0 0 0 (zQ D cy A T z (some (.int r))) S 4 85 [(0, .ref x0), (2, .int x2), (3, .int x3)] [] := by
  obtain ⟨hx, hb, hml, hown, hr, hlocks, hT⟩ := id X
  intro H locs ls hH hS hl
  unfold fX8_count_85 at h
  refine lv_iload_n hx hb dX8_count_85 rfl (lv_at hl 2 rfl) ?_
  refine lv_bipush (v := (30 : Int32)) hx hb dX8_count_86 (by decide) ?_
  refine lv_icmp_ge (tgt := 114) hx hb dX8_count_88 (by decide) (fun c => ?_) (fun c => ?_)
  · have h := (if_pos c).symm.trans h
    refine lv_iload_n hx hb dX8_count_114 rfl (lv_at hl 1 rfl) ?_
    exact z_iret X hH hS h dX8_count_115
  · have h := (if_neg c).symm.trans h
    refine lv_iload_n hx hb dX8_count_91 rfl (lv_at hl 1 rfl) ?_
    refine lv_aload_n hx hb dX8_count_92 rfl (lv_at hl 0 rfl) ?_
    obtain ⟨v4, ev4, h⟩ := zb_some h
    refine z_getr X flX8_86 hH ev4 dX8_count_93 ?_
    refine lv_iload_n hx hb dX8_count_96 rfl (lv_at hl 2 rfl) ?_
    obtain ⟨v5, ev5, h⟩ := zb_some h
    refine z_zald X hH ev5 dX8_count_97 ?_
    refine lv_if_eq (tgt := 105) hx hb dX8_count_98 (by decide) (fun c => ?_) (fun c => ?_)
    · have h := (if_pos c).symm.trans h
      refine lv_iconst (v := (0 : Int32)) hx hb dX8_count_105 (by decide) ?_
      exact wX8_count_106 X hK85 h _ _ _ hH hS (lv_sub hl [0, 2] rfl)
    · have h := (if_neg c).symm.trans h
      refine lv_iconst (v := (1 : Int32)) hx hb dX8_count_101 (by decide) ?_
      refine lv_goto (tgt := 106) hx hb dX8_count_102 (by decide) ?_
      exact wX8_count_106 X hK85 h _ _ _ hH hS (lv_sub hl [0, 2] rfl)
set_option maxRecDepth 100000 in
set_option maxHeartbeats 4000000 in
theorem uX8_count_85 {z : Nat} {N : Nat} {r : Int32} {T : zS} (X : zX D cy p s m meth c cX8_count 4 RX8 (some .int))  {S : zS} {x0 : Nat} {x2 : Int32} {x3 : Int32} (h : lX8_count_85 N S x0 x2 x3 = some (r, T)) : zWt D cy A p l e { frames := 0, cells := 0, slots := 0, locals := 0 } s m args below meth c z 0 0 0 0 (zQ D cy A T z (some (.int r))) S 4 85 [(0, .ref x0), (2, .int x2), (3, .int x3)] [] := by
  unfold lX8_count_85 at h
  exact zloop_ind (P := fun y => zWt D cy A p l e { frames := 0, cells := 0, slots := 0, locals := 0 } s m args below meth c z 0 0 0 0 (zQ D cy A T z (some (.int r))) y.1 4 85 [(0, .ref y.2.1), (2, .int y.2.2.1), (3, .int y.2.2.2)] []) (fun K hK y hy => wX8_count_85 X (fun S x0 x2 x3 hq => hK (S, x0, x2, x3) hq) hy) N (S, x0, x2, x3) h
set_option maxRecDepth 100000 in
set_option maxHeartbeats 4000000 in
theorem wX8_count_73 {z : Nat} {N : Nat} {r : Int32} {T : zS} (X : zX D cy p s m meth c cX8_count 4 RX8 (some .int)) {K52 : zS × Nat × Int32 × Int32 → Option (Int32 × zS)} (hK52 : ∀ (S : zS) (x0 : Nat) (x2 : Int32) (x3 : Int32), K52 (S, x0, x2, x3) = some (r, T) → zWt D cy A p l e { frames := 0, cells := 0, slots := 0, locals := 0 } s m args below meth c z 0 0 0 0 (zQ D cy A T z (some (.int r))) S 4 52 [(0, .ref x0), (2, .int x2), (3, .int x3)] []) {S : zS} {x0 : Nat} {x3 : Int32} {y0 : Int32} {y1 : Int32} (h : fX8_count_73 N K52 S x0 x3 y0 y1 = some (r, T)) : zWt D cy A p l e { frames := 0, cells := 0, slots := 0, locals := 0 } s m args below meth c z 0 0 0 0 (zQ D cy A T z (some (.int r))) S 4 73 [(0, .ref x0), (3, .int x3)] [.int y1, .int y0] := by
  obtain ⟨hx, hb, hml, hown, hr, hlocks, hT⟩ := id X
  intro H locs ls hH hS hl
  unfold fX8_count_73 at h
  refine lv_iadd hx hb dX8_count_73 ?_
  refine lv_istore_n (lv' := [(2, .int (y0 + y1)), (0, .ref x0), (3, .int x3)]) hx hb dX8_count_74 rfl hl (by decide) rfl (fun ls hl => ?_)
  refine lv_iinc (v := (x3 + (1 : Int32))) (lv' := [(3, .int (x3 + (1 : Int32))), (2, .int (y0 + y1)), (0, .ref x0)]) hx hb dX8_count_75 hl (k := 2) rfl rfl (by decide) rfl (fun ls hl => ?_)
  refine lv_goto (tgt := 52) hx hb dX8_count_78 (by decide) ?_
  exact hK52 _ _ _ _ h _ _ _ hH hS (lv_sub hl [2, 1, 0] rfl)
set_option maxRecDepth 100000 in
set_option maxHeartbeats 4000000 in
theorem wX8_count_52 {z : Nat} {N : Nat} {r : Int32} {T : zS} (X : zX D cy p s m meth c cX8_count 4 RX8 (some .int)) {K52 : zS × Nat × Int32 × Int32 → Option (Int32 × zS)} (hK52 : ∀ (S : zS) (x0 : Nat) (x2 : Int32) (x3 : Int32), K52 (S, x0, x2, x3) = some (r, T) → zWt D cy A p l e { frames := 0, cells := 0, slots := 0, locals := 0 } s m args below meth c z 0 0 0 0 (zQ D cy A T z (some (.int r))) S 4 52 [(0, .ref x0), (2, .int x2), (3, .int x3)] []) {S : zS} {x0 : Nat} {x2 : Int32} {x3 : Int32} (h : fX8_count_52 N K52 S x0 x2 x3 = some (r, T)) : zWt D cy A p l e { frames := 0, cells := 0, slots := 0, locals := 0 } s m args below meth c z 0 0 0 0 (zQ D cy A T z (some (.int r))) S 4 52 [(0, .ref x0), (2, .int x2), (3, .int x3)] [] := by
  obtain ⟨hx, hb, hml, hown, hr, hlocks, hT⟩ := id X
  intro H locs ls hH hS hl
  unfold fX8_count_52 at h
  refine lv_iload_n hx hb dX8_count_52 rfl (lv_at hl 2 rfl) ?_
  refine lv_bipush (v := (30 : Int32)) hx hb dX8_count_53 (by decide) ?_
  refine lv_icmp_ge (tgt := 81) hx hb dX8_count_55 (by decide) (fun c => ?_) (fun c => ?_)
  · have h := (if_pos c).symm.trans h
    refine lv_iload_n hx hb dX8_count_81 rfl (lv_at hl 1 rfl) ?_
    exact z_iret X hH hS h dX8_count_82
  · have h := (if_neg c).symm.trans h
    refine lv_iload_n hx hb dX8_count_58 rfl (lv_at hl 1 rfl) ?_
    refine lv_aload_n hx hb dX8_count_59 rfl (lv_at hl 0 rfl) ?_
    obtain ⟨v6, ev6, h⟩ := zb_some h
    refine z_getr X flX8_80 hH ev6 dX8_count_60 ?_
    refine lv_iload_n hx hb dX8_count_63 rfl (lv_at hl 2 rfl) ?_
    obtain ⟨v7, ev7, h⟩ := zb_some h
    refine z_iald X hH ev7 dX8_count_64 ?_
    refine lv_if_ge (tgt := 72) hx hb dX8_count_65 (by decide) (fun c => ?_) (fun c => ?_)
    · have h := (if_pos c).symm.trans h
      refine lv_iconst (v := (0 : Int32)) hx hb dX8_count_72 (by decide) ?_
      exact wX8_count_73 X hK52 h _ _ _ hH hS (lv_sub hl [0, 2] rfl)
    · have h := (if_neg c).symm.trans h
      refine lv_iconst (v := (1 : Int32)) hx hb dX8_count_68 (by decide) ?_
      refine lv_goto (tgt := 73) hx hb dX8_count_69 (by decide) ?_
      exact wX8_count_73 X hK52 h _ _ _ hH hS (lv_sub hl [0, 2] rfl)
set_option maxRecDepth 100000 in
set_option maxHeartbeats 4000000 in
theorem uX8_count_52 {z : Nat} {N : Nat} {r : Int32} {T : zS} (X : zX D cy p s m meth c cX8_count 4 RX8 (some .int))  {S : zS} {x0 : Nat} {x2 : Int32} {x3 : Int32} (h : lX8_count_52 N S x0 x2 x3 = some (r, T)) : zWt D cy A p l e { frames := 0, cells := 0, slots := 0, locals := 0 } s m args below meth c z 0 0 0 0 (zQ D cy A T z (some (.int r))) S 4 52 [(0, .ref x0), (2, .int x2), (3, .int x3)] [] := by
  unfold lX8_count_52 at h
  exact zloop_ind (P := fun y => zWt D cy A p l e { frames := 0, cells := 0, slots := 0, locals := 0 } s m args below meth c z 0 0 0 0 (zQ D cy A T z (some (.int r))) y.1 4 52 [(0, .ref y.2.1), (2, .int y.2.2.1), (3, .int y.2.2.2)] []) (fun K hK y hy => wX8_count_52 X (fun S x0 x2 x3 hq => hK (S, x0, x2, x3) hq) hy) N (S, x0, x2, x3) h
set_option maxRecDepth 100000 in
set_option maxHeartbeats 4000000 in
theorem wX8_count_0 {z : Nat} {N : Nat} {r : Int32} {T : zS} (X : zX D cy p s m meth c cX8_count 4 RX8 (some .int))  {S : zS} {x0 : Nat} {x1 : Int32} (h : fX8_count_0 N S x0 x1 = some (r, T)) : zWt D cy A p l e { frames := 0, cells := 0, slots := 0, locals := 0 } s m args below meth c z 0 0 0 0 (zQ D cy A T z (some (.int r))) S 4 0 [(0, .ref x0), (1, .int x1)] [] := by
  obtain ⟨hx, hb, hml, hown, hr, hlocks, hT⟩ := id X
  intro H locs ls hH hS hl
  unfold fX8_count_0 at h
  refine lv_iconst (v := (0 : Int32)) hx hb dX8_count_0 (by decide) ?_
  refine lv_istore_n (lv' := [(2, .int (0 : Int32)), (0, .ref x0), (1, .int x1)]) hx hb dX8_count_1 rfl hl (by decide) rfl (fun ls hl => ?_)
  refine lv_iload_n hx hb dX8_count_2 rfl (lv_at hl 2 rfl) ?_
  by_cases c0 : x1 = (0 : Int32)
  · have h := (if_pos c0).symm.trans h
    refine lv_tableIn (tgt := 40) hx hb dX8_count_3 (by rw [c0]; decide) (by rw [c0]; decide) (by rw [c0]; rfl) (by decide) ?_
    refine lv_aload_n hx hb dX8_count_40 rfl (lv_at hl 1 rfl) ?_
    obtain ⟨v8, ev8, h⟩ := zb_some h
    refine z_geti X flX8_106 hH ev8 dX8_count_41 ?_
    exact z_iret X hH hS h dX8_count_44
  have h := (if_neg c0).symm.trans h
  by_cases c1 : x1 = (1 : Int32)
  · have h := (if_pos c1).symm.trans h
    refine lv_tableIn (tgt := 45) hx hb dX8_count_3 (by rw [c1]; decide) (by rw [c1]; decide) (by rw [c1]; rfl) (by decide) ?_
    refine lv_aload_n hx hb dX8_count_45 rfl (lv_at hl 1 rfl) ?_
    obtain ⟨v9, ev9, h⟩ := zb_some h
    refine z_geti X flX8_113 hH ev9 dX8_count_46 ?_
    exact z_iret X hH hS h dX8_count_49
  have h := (if_neg c1).symm.trans h
  by_cases c2 : x1 = (2 : Int32)
  · have h := (if_pos c2).symm.trans h
    refine lv_tableIn (tgt := 50) hx hb dX8_count_3 (by rw [c2]; decide) (by rw [c2]; decide) (by rw [c2]; rfl) (by decide) ?_
    refine lv_iconst (v := (0 : Int32)) hx hb dX8_count_50 (by decide) ?_
    refine lv_istore_n (lv' := [(3, .int (0 : Int32)), (2, .int (0 : Int32)), (0, .ref x0), (1, .int x1)]) hx hb dX8_count_51 rfl hl (by decide) rfl (fun ls hl => ?_)
    exact uX8_count_52 X h _ _ _ hH hS (lv_sub hl [2, 1, 0] rfl)
  have h := (if_neg c2).symm.trans h
  by_cases c3 : x1 = (3 : Int32)
  · have h := (if_pos c3).symm.trans h
    refine lv_tableIn (tgt := 83) hx hb dX8_count_3 (by rw [c3]; decide) (by rw [c3]; decide) (by rw [c3]; rfl) (by decide) ?_
    refine lv_iconst (v := (0 : Int32)) hx hb dX8_count_83 (by decide) ?_
    refine lv_istore_n (lv' := [(3, .int (0 : Int32)), (2, .int (0 : Int32)), (0, .ref x0), (1, .int x1)]) hx hb dX8_count_84 rfl hl (by decide) rfl (fun ls hl => ?_)
    exact uX8_count_85 X h _ _ _ hH hS (lv_sub hl [2, 1, 0] rfl)
  have h := (if_neg c3).symm.trans h
  by_cases c4 : x1 = (4 : Int32)
  · have h := (if_pos c4).symm.trans h
    refine lv_tableIn (tgt := 116) hx hb dX8_count_3 (by rw [c4]; decide) (by rw [c4]; decide) (by rw [c4]; rfl) (by decide) ?_
    refine lv_aload_n hx hb dX8_count_116 rfl (lv_at hl 1 rfl) ?_
    obtain ⟨v10, ev10, h⟩ := zb_some h
    refine z_geti X flX8_103 hH ev10 dX8_count_117 ?_
    exact z_iret X hH hS h dX8_count_120
  have h := (if_neg c4).symm.trans h
  by_cases c5 : x1 = (5 : Int32)
  · have h := (if_pos c5).symm.trans h
    refine lv_tableIn (tgt := 121) hx hb dX8_count_3 (by rw [c5]; decide) (by rw [c5]; decide) (by rw [c5]; rfl) (by decide) ?_
    refine lv_iconst (v := (0 : Int32)) hx hb dX8_count_121 (by decide) ?_
    refine lv_istore_n (lv' := [(3, .int (0 : Int32)), (2, .int (0 : Int32)), (0, .ref x0), (1, .int x1)]) hx hb dX8_count_122 rfl hl (by decide) rfl (fun ls hl => ?_)
    exact uX8_count_123 X h _ _ _ hH hS (lv_sub hl [2, 1, 0] rfl)
  have h := (if_neg c5).symm.trans h
  refine lv_tableOut (tgt := 156) hx hb dX8_count_3 (by have := lv_neT c0 (a := 0) (by decide); have := lv_neT c1 (a := 1) (by decide); have := lv_neT c2 (a := 2) (by decide); have := lv_neT c3 (a := 3) (by decide); have := lv_neT c4 (a := 4) (by decide); have := lv_neT c5 (a := 5) (by decide); omega) (by decide) ?_
  refine lv_iconst (v := (-1 : Int32)) hx hb dX8_count_156 (by decide) ?_
  exact z_iret X hH hS h dX8_count_157
set_option maxRecDepth 100000 in
theorem kX8_count {N : Nat} {r : Int32} {T : zS} {S : zS} {z : Nat} {x0 : Nat} {x1 : Int32} (h : fX8_count N S x0 x1 = some (r, T)) : Met l yX8_count [.code yX8_count cX8_count 4 (some .int)] { frames := 0, cells := 0, slots := 0, locals := 0 } (zP D cy A S z [.ref x0, .int x1]) (zQ D cy A T z (some (.int r))) 0 0 A := by
  refine z_met (lv := [(0, .ref x0), (1, .int x1)]) (by decide) (Nat.le_of_ble_eq_true rfl) rfl ?_
  intro p e s m below meth c X H locs ls hH hS hl
  exact wX8_count_0 X h _ _ _ hH hS (lv_sub hl [0, 1] rfl)
end
