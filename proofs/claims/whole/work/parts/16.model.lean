section
variable {D : va_G} {cy : Nat → ClassId} {A : Nat → Prop} {p : Program} {l : Launch} {e : Env} {s : State} {m : MethodId} {args : Array Value} {below : List Frame} {meth : Method} {c : Code}
set_option maxRecDepth 100000 in
set_option maxHeartbeats 4000000 in
theorem wX8_in_15 {z : Nat} {N : Nat} {r : Int32} {T : zS} (X : zX D cy p s m meth c cX8_in 3 RX8 (some .boolean))  {S : zS} {y0 : Int32} (h : fX8_in_15 N S y0 = some (r, T)) : zWt D cy A p l e { frames := 0, cells := 0, slots := 0, locals := 0 } s m args below meth c z 0 0 0 0 (zQ D cy A T z (some (.int r))) S 3 15 [] [.int y0] := by
  obtain ⟨hx, hb, hml, hown, hr, hlocks, hT⟩ := id X
  intro H locs ls hH hS hl
  unfold fX8_in_15 at h
  exact z_zret X hH hS h dX8_in_15
set_option maxRecDepth 100000 in
set_option maxHeartbeats 4000000 in
theorem wX8_in_14 {z : Nat} {N : Nat} {r : Int32} {T : zS} (X : zX D cy p s m meth c cX8_in 3 RX8 (some .boolean))  {S : zS} (h : fX8_in_14 N S = some (r, T)) : zWt D cy A p l e { frames := 0, cells := 0, slots := 0, locals := 0 } s m args below meth c z 0 0 0 0 (zQ D cy A T z (some (.int r))) S 3 14 [] [] := by
  obtain ⟨hx, hb, hml, hown, hr, hlocks, hT⟩ := id X
  intro H locs ls hH hS hl
  unfold fX8_in_14 at h
  refine lv_iconst (v := (0 : Int32)) hx hb dX8_in_14 (by decide) ?_
  exact wX8_in_15 X h _ _ _ hH hS (lv_sub hl [] rfl)
set_option maxRecDepth 100000 in
set_option maxHeartbeats 4000000 in
theorem wX8_in_0 {z : Nat} {N : Nat} {r : Int32} {T : zS} (X : zX D cy p s m meth c cX8_in 3 RX8 (some .boolean))  {S : zS} {x0 : Int32} {x1 : Int32} {x2 : Int32} (h : fX8_in_0 N S x0 x1 x2 = some (r, T)) : zWt D cy A p l e { frames := 0, cells := 0, slots := 0, locals := 0 } s m args below meth c z 0 0 0 0 (zQ D cy A T z (some (.int r))) S 3 0 [(0, .int x0), (1, .int x1), (2, .int x2)] [] := by
  obtain ⟨hx, hb, hml, hown, hr, hlocks, hT⟩ := id X
  intro H locs ls hH hS hl
  unfold fX8_in_0 at h
  refine lv_iload_n hx hb dX8_in_0 rfl (lv_at hl 0 rfl) ?_
  refine lv_iload_n hx hb dX8_in_1 rfl (lv_at hl 1 rfl) ?_
  refine lv_icmp_lt (tgt := 14) hx hb dX8_in_2 (by decide) (fun c => ?_) (fun c => ?_)
  · have h := (if_pos c).symm.trans h
    exact wX8_in_14 X h _ _ _ hH hS (lv_sub hl [] rfl)
  · have h := (if_neg c).symm.trans h
    refine lv_iload_n hx hb dX8_in_5 rfl (lv_at hl 0 rfl) ?_
    refine lv_iload_n hx hb dX8_in_6 rfl (lv_at hl 2 rfl) ?_
    refine lv_icmp_gt (tgt := 14) hx hb dX8_in_7 (by decide) (fun c => ?_) (fun c => ?_)
    · have h := (if_pos c).symm.trans h
      exact wX8_in_14 X h _ _ _ hH hS (lv_sub hl [] rfl)
    · have h := (if_neg c).symm.trans h
      refine lv_iconst (v := (1 : Int32)) hx hb dX8_in_10 (by decide) ?_
      refine lv_goto (tgt := 15) hx hb dX8_in_11 (by decide) ?_
      exact wX8_in_15 X h _ _ _ hH hS (lv_sub hl [] rfl)
set_option maxRecDepth 100000 in
theorem kX8_in {N : Nat} {r : Int32} {T : zS} {S : zS} {z : Nat} {x0 : Int32} {x1 : Int32} {x2 : Int32} (h : fX8_in N S x0 x1 x2 = some (r, T)) : Met l yX8_in [.code yX8_in cX8_in 3 (some .boolean)] { frames := 0, cells := 0, slots := 0, locals := 0 } (zP D cy A S z [.int x0, .int x1, .int x2]) (zQ D cy A T z (some (.int r))) 0 0 A := by
  refine z_met (lv := [(0, .int x0), (1, .int x1), (2, .int x2)]) (by decide) (Nat.le_of_ble_eq_true rfl) rfl ?_
  intro p e s m below meth c X H locs ls hH hS hl
  exact wX8_in_0 X h _ _ _ hH hS (lv_sub hl [0, 1, 2] rfl)
set_option maxRecDepth 100000 in
set_option maxHeartbeats 4000000 in
theorem wX8_feed_27 {z : Nat} {N : Nat} {r : Int32} {T : zS} (X : zX D cy p s m meth c cX8_feed 4 RX8 (some .int)) {K27 : zS × Nat × Int32 × Int32 × Int32 → Option (Int32 × zS)} (hK27 : ∀ (S : zS) (x0 : Nat) (x1 : Int32) (x2 : Int32) (x3 : Int32), K27 (S, x0, x1, x2, x3) = some (r, T) → zWt D cy A p l e { frames := 1, cells := 0, slots := 0, locals := 22 } s m args below meth c z 0 0 0 0 (zQ D cy A T z (some (.int r))) S 4 27 [(0, .ref x0), (1, .int x1), (2, .int x2), (3, .int x3)] []) {S : zS} {x0 : Nat} {x1 : Int32} {x2 : Int32} {x3 : Int32} (h : fX8_feed_27 N K27 S x0 x1 x2 x3 = some (r, T)) : zWt D cy A p l e { frames := 1, cells := 0, slots := 0, locals := 22 } s m args below meth c z 0 0 0 0 (zQ D cy A T z (some (.int r))) S 4 27 [(0, .ref x0), (1, .int x1), (2, .int x2), (3, .int x3)] [] := by
  obtain ⟨hx, hb, hml, hown, hr, hlocks, hT⟩ := id X
  intro H locs ls hH hS hl
  unfold fX8_feed_27 at h
  refine lv_iload_n hx hb dX8_feed_27 rfl (lv_at hl 3 rfl) ?_
  refine lv_iload_n hx hb dX8_feed_28 rfl (lv_at hl 1 rfl) ?_
  refine lv_icmp_ge (tgt := 67) hx hb dX8_feed_29 (by decide) (fun c => ?_) (fun c => ?_)
  · have h := (if_pos c).symm.trans h
    refine lv_aload_n hx hb dX8_feed_67 rfl (lv_at hl 0 rfl) ?_
    obtain ⟨v1, ev1, h⟩ := zb_some h
    refine z_geti X flX8_103 hH ev1 dX8_feed_68 ?_
    exact z_iret X hH hS h dX8_feed_71
  · have h := (if_neg c).symm.trans h
    refine lv_aload_n hx hb dX8_feed_32 rfl (lv_at hl 0 rfl) ?_
    obtain ⟨v2, ev2, h⟩ := zb_some h
    refine z_getr X flX8_7 hH ev2 dX8_feed_33 ?_
    refine lv_aload_n hx hb dX8_feed_36 rfl (lv_at hl 0 rfl) ?_
    obtain ⟨v3, ev3, h⟩ := zb_some h
    refine z_geti X flX8_103 hH ev3 dX8_feed_37 ?_
    refine lv_iload_n hx hb dX8_feed_40 rfl (lv_at hl 2 rfl) ?_
    refine lv_bipush (v := (8 : Int32)) hx hb dX8_feed_41 (by decide) ?_
    refine lv_iload_n hx hb dX8_feed_43 rfl (lv_at hl 3 rfl) ?_
    refine lv_imul hx hb dX8_feed_44 ?_
    refine lv_ishr hx hb dX8_feed_45 ?_
    refine lv_sipush (v := (255 : Int32)) hx hb dX8_feed_46 (by decide) ?_
    refine lv_iand hx hb dX8_feed_49 ?_
    obtain ⟨S4, eS4, h⟩ := zb_some h
    refine z_iast X hH hS eS4 dX8_feed_50 (fun H locs hH hS => ?_)
    refine lv_aload_n hx hb dX8_feed_51 rfl (lv_at hl 0 rfl) ?_
    refine lv_dup hx hb dX8_feed_52 rfl ?_
    obtain ⟨v5, ev5, h⟩ := zb_some h
    refine z_geti X flX8_103 hH ev5 dX8_feed_53 ?_
    refine lv_iconst (v := (1 : Int32)) hx hb dX8_feed_56 (by decide) ?_
    refine lv_iadd hx hb dX8_feed_57 ?_
    obtain ⟨S6, eS6, h⟩ := zb_some h
    refine z_puti X flX8_103 fpX8_2 hH hS eS6 dX8_feed_58 (fun H locs hH hS => ?_)
    refine lv_iinc (v := (x3 + (1 : Int32))) (lv' := [(3, .int (x3 + (1 : Int32))), (0, .ref x0), (1, .int x1), (2, .int x2)]) hx hb dX8_feed_61 hl (k := 3) rfl (z_ii (by decide) _) (by decide) rfl (fun ls hl => ?_)
    refine lv_goto (tgt := 27) hx hb dX8_feed_64 (by decide) ?_
    exact hK27 _ _ _ _ _ h _ _ _ hH hS (lv_sub hl [1, 2, 3, 0] rfl)
set_option maxRecDepth 100000 in
set_option maxHeartbeats 4000000 in
theorem uX8_feed_27 {z : Nat} {N : Nat} {r : Int32} {T : zS} (X : zX D cy p s m meth c cX8_feed 4 RX8 (some .int))  {S : zS} {x0 : Nat} {x1 : Int32} {x2 : Int32} {x3 : Int32} (h : lX8_feed_27 N S x0 x1 x2 x3 = some (r, T)) : zWt D cy A p l e { frames := 1, cells := 0, slots := 0, locals := 22 } s m args below meth c z 0 0 0 0 (zQ D cy A T z (some (.int r))) S 4 27 [(0, .ref x0), (1, .int x1), (2, .int x2), (3, .int x3)] [] := by
  unfold lX8_feed_27 at h
  refine zloop_ind (P := fun y => zWt D cy A p l e { frames := 1, cells := 0, slots := 0, locals := 22 } s m args below meth c z 0 0 0 0 (zQ D cy A T z (some (.int r))) y.1 4 27 [(0, .ref y.2.1), (1, .int y.2.2.1), (2, .int y.2.2.2.1), (3, .int y.2.2.2.2)] []) ?_ N (S, x0, x1, x2, x3) h
  intro K hK y hy
  obtain ⟨S, x0, x1, x2, x3⟩ := y
  exact wX8_feed_27 X (fun S x0 x1 x2 x3 hq => hK (S, x0, x1, x2, x3) hq) hy
set_option maxRecDepth 100000 in
set_option maxHeartbeats 4000000 in
theorem wX8_feed_0 {z : Nat} {N : Nat} {r : Int32} {T : zS} (X : zX D cy p s m meth c cX8_feed 4 RX8 (some .int))  {S : zS} {x0 : Nat} {x1 : Int32} {x2 : Int32} (h : fX8_feed_0 N S x0 x1 x2 = some (r, T)) : zWt D cy A p l e { frames := 1, cells := 0, slots := 0, locals := 22 } s m args below meth c z 0 0 0 0 (zQ D cy A T z (some (.int r))) S 4 0 [(0, .ref x0), (1, .int x1), (2, .int x2)] [] := by
  obtain ⟨hx, hb, hml, hown, hr, hlocks, hT⟩ := id X
  intro H locs ls hH hS hl
  unfold fX8_feed_0 at h
  refine lv_iload_n hx hb dX8_feed_0 rfl (lv_at hl 1 rfl) ?_
  refine lv_iconst (v := (1 : Int32)) hx hb dX8_feed_1 (by decide) ?_
  refine lv_iconst (v := (4 : Int32)) hx hb dX8_feed_2 (by decide) ?_
  obtain ⟨v8, S7, eS7, h⟩ := zb2_some h
  refine z_cS (As := [.int x1, .int (1 : Int32), .int (4 : Int32)]) X hl hH hS mlX8_99 (kX8_in eS7) rfl rfl (Nat.le_of_ble_eq_true rfl) ⟨rfl, rfl, Nat.le_of_ble_eq_true rfl, Nat.le_of_ble_eq_true rfl⟩ ⟨Nat.le_refl _, Nat.le_refl _⟩ dX8_feed_3 (fun H locs hH hS => ?_)
  refine lv_if_ne (tgt := 11) hx hb dX8_feed_6 (by decide) (fun c => ?_) (fun c => ?_)
  · have h := (if_neg c).symm.trans h
    refine lv_aload_n hx hb dX8_feed_11 rfl (lv_at hl 0 rfl) ?_
    obtain ⟨v9, ev9, h⟩ := zb_some h
    refine z_geti X flX8_103 hH ev9 dX8_feed_12 ?_
    refine lv_iload_n hx hb dX8_feed_15 rfl (lv_at hl 1 rfl) ?_
    refine lv_iadd hx hb dX8_feed_16 ?_
    refine lv_bipush (v := (60 : Int32)) hx hb dX8_feed_17 (by decide) ?_
    refine lv_icmp_le (tgt := 25) hx hb dX8_feed_19 (by decide) (fun c => ?_) (fun c => ?_)
    · have h := (if_pos c).symm.trans h
      refine lv_iconst (v := (0 : Int32)) hx hb dX8_feed_25 (by decide) ?_
      refine lv_istore_n (lv' := [(3, .int (0 : Int32)), (0, .ref x0), (1, .int x1), (2, .int x2)]) hx hb dX8_feed_26 rfl hl (by decide) rfl (fun ls hl => ?_)
      exact uX8_feed_27 X h _ _ _ hH hS (lv_sub hl [1, 2, 3, 0] rfl)
    · have h := (if_neg c).symm.trans h
      refine lv_bipush (v := (-3 : Int32)) hx hb dX8_feed_22 (by decide) ?_
      exact z_iret X hH hS h dX8_feed_24
  · have h := (if_pos c).symm.trans h
    refine lv_iconst (v := (-1 : Int32)) hx hb dX8_feed_9 (by decide) ?_
    exact z_iret X hH hS h dX8_feed_10
set_option maxRecDepth 100000 in
theorem kX8_feed {N : Nat} {r : Int32} {T : zS} {S : zS} {z : Nat} {x0 : Nat} {x1 : Int32} {x2 : Int32} (h : fX8_feed N S x0 x1 x2 = some (r, T)) : Met l yX8_feed [.code yX8_feed cX8_feed 4 (some .int)] { frames := 1, cells := 0, slots := 0, locals := 22 } (zP D cy A S z [.ref x0, .int x1, .int x2]) (zQ D cy A T z (some (.int r))) 0 0 A := by
  refine z_met (lv := [(0, .ref x0), (1, .int x1), (2, .int x2)]) (by decide) (Nat.le_of_ble_eq_true rfl) rfl ?_
  intro p e s m below meth c X H locs ls hH hS hl
  exact wX8_feed_0 X h _ _ _ hH hS (lv_sub hl [0, 1, 2] rfl)
set_option maxRecDepth 100000 in
set_option maxHeartbeats 4000000 in
theorem wX8_keep_14 {z : Nat} {N : Nat} {r : Int32} {T : zS} (X : zX D cy p s m meth c cX8_keep 4 RX8 (some .int)) {K14 : zS × Nat × Int32 × Int32 × Int32 → Option (Int32 × zS)} (hK14 : ∀ (S : zS) (x0 : Nat) (x1 : Int32) (x2 : Int32) (x3 : Int32), K14 (S, x0, x1, x2, x3) = some (r, T) → zWt D cy A p l e { frames := 0, cells := 0, slots := 0, locals := 0 } s m args below meth c z 0 0 0 0 (zQ D cy A T z (some (.int r))) S 4 14 [(0, .ref x0), (1, .int x1), (2, .int x2), (3, .int x3)] []) {S : zS} {x0 : Nat} {x1 : Int32} {x2 : Int32} {x3 : Int32} (h : fX8_keep_14 N K14 S x0 x1 x2 x3 = some (r, T)) : zWt D cy A p l e { frames := 0, cells := 0, slots := 0, locals := 0 } s m args below meth c z 0 0 0 0 (zQ D cy A T z (some (.int r))) S 4 14 [(0, .ref x0), (1, .int x1), (2, .int x2), (3, .int x3)] [] := by
  obtain ⟨hx, hb, hml, hown, hr, hlocks, hT⟩ := id X
  intro H locs ls hH hS hl
  unfold fX8_keep_14 at h
  refine lv_iload_n hx hb dX8_keep_14 rfl (lv_at hl 3 rfl) ?_
  refine lv_iload_n hx hb dX8_keep_15 rfl (lv_at hl 2 rfl) ?_
  refine lv_icmp_ge (tgt := 42) hx hb dX8_keep_16 (by decide) (fun c => ?_) (fun c => ?_)
  · have h := (if_pos c).symm.trans h
    refine lv_aload_n hx hb dX8_keep_42 rfl (lv_at hl 0 rfl) ?_
    refine lv_iconst (v := (0 : Int32)) hx hb dX8_keep_43 (by decide) ?_
    obtain ⟨S1, eS1, h⟩ := zb_some h
    refine z_puti X flX8_103 fpX8_2 hH hS eS1 dX8_keep_44 (fun H locs hH hS => ?_)
    refine lv_iload_n hx hb dX8_keep_47 rfl (lv_at hl 2 rfl) ?_
    exact z_iret X hH hS h dX8_keep_48
  · have h := (if_neg c).symm.trans h
    refine lv_aload_n hx hb dX8_keep_19 rfl (lv_at hl 0 rfl) ?_
    obtain ⟨v2, ev2, h⟩ := zb_some h
    refine z_getr X flX8_16 hH ev2 dX8_keep_20 ?_
    refine lv_bipush (v := (60 : Int32)) hx hb dX8_keep_23 (by decide) ?_
    refine lv_iload_n hx hb dX8_keep_25 rfl (lv_at hl 1 rfl) ?_
    refine lv_imul hx hb dX8_keep_26 ?_
    refine lv_iload_n hx hb dX8_keep_27 rfl (lv_at hl 3 rfl) ?_
    refine lv_iadd hx hb dX8_keep_28 ?_
    refine lv_aload_n hx hb dX8_keep_29 rfl (lv_at hl 0 rfl) ?_
    obtain ⟨v3, ev3, h⟩ := zb_some h
    refine z_getr X flX8_7 hH ev3 dX8_keep_30 ?_
    refine lv_iload_n hx hb dX8_keep_33 rfl (lv_at hl 3 rfl) ?_
    obtain ⟨v4, ev4, h⟩ := zb_some h
    refine z_iald X hH ev4 dX8_keep_34 ?_
    obtain ⟨S5, eS5, h⟩ := zb_some h
    refine z_iast X hH hS eS5 dX8_keep_35 (fun H locs hH hS => ?_)
    refine lv_iinc (v := (x3 + (1 : Int32))) (lv' := [(3, .int (x3 + (1 : Int32))), (0, .ref x0), (1, .int x1), (2, .int x2)]) hx hb dX8_keep_36 hl (k := 3) rfl (z_ii (by decide) _) (by decide) rfl (fun ls hl => ?_)
    refine lv_goto (tgt := 14) hx hb dX8_keep_39 (by decide) ?_
    exact hK14 _ _ _ _ _ h _ _ _ hH hS (lv_sub hl [1, 2, 3, 0] rfl)
set_option maxRecDepth 100000 in
set_option maxHeartbeats 4000000 in
theorem uX8_keep_14 {z : Nat} {N : Nat} {r : Int32} {T : zS} (X : zX D cy p s m meth c cX8_keep 4 RX8 (some .int))  {S : zS} {x0 : Nat} {x1 : Int32} {x2 : Int32} {x3 : Int32} (h : lX8_keep_14 N S x0 x1 x2 x3 = some (r, T)) : zWt D cy A p l e { frames := 0, cells := 0, slots := 0, locals := 0 } s m args below meth c z 0 0 0 0 (zQ D cy A T z (some (.int r))) S 4 14 [(0, .ref x0), (1, .int x1), (2, .int x2), (3, .int x3)] [] := by
  unfold lX8_keep_14 at h
  refine zloop_ind (P := fun y => zWt D cy A p l e { frames := 0, cells := 0, slots := 0, locals := 0 } s m args below meth c z 0 0 0 0 (zQ D cy A T z (some (.int r))) y.1 4 14 [(0, .ref y.2.1), (1, .int y.2.2.1), (2, .int y.2.2.2.1), (3, .int y.2.2.2.2)] []) ?_ N (S, x0, x1, x2, x3) h
  intro K hK y hy
  obtain ⟨S, x0, x1, x2, x3⟩ := y
  exact wX8_keep_14 X (fun S x0 x1 x2 x3 hq => hK (S, x0, x1, x2, x3) hq) hy
set_option maxRecDepth 100000 in
set_option maxHeartbeats 4000000 in
theorem wX8_keep_0 {z : Nat} {N : Nat} {r : Int32} {T : zS} (X : zX D cy p s m meth c cX8_keep 4 RX8 (some .int))  {S : zS} {x0 : Nat} {x1 : Int32} (h : fX8_keep_0 N S x0 x1 = some (r, T)) : zWt D cy A p l e { frames := 0, cells := 0, slots := 0, locals := 0 } s m args below meth c z 0 0 0 0 (zQ D cy A T z (some (.int r))) S 4 0 [(0, .ref x0), (1, .int x1)] [] := by
  obtain ⟨hx, hb, hml, hown, hr, hlocks, hT⟩ := id X
  intro H locs ls hH hS hl
  unfold fX8_keep_0 at h
  refine lv_aload_n hx hb dX8_keep_0 rfl (lv_at hl 0 rfl) ?_
  obtain ⟨v6, ev6, h⟩ := zb_some h
  refine z_geti X flX8_103 hH ev6 dX8_keep_1 ?_
  refine lv_istore_n (lv' := [(2, .int v6), (0, .ref x0), (1, .int x1)]) hx hb dX8_keep_4 rfl hl (by decide) rfl (fun ls hl => ?_)
  refine lv_aload_n hx hb dX8_keep_5 rfl (lv_at hl 1 rfl) ?_
  obtain ⟨v7, ev7, h⟩ := zb_some h
  refine z_getr X flX8_13 hH ev7 dX8_keep_6 ?_
  refine lv_iload_n hx hb dX8_keep_9 rfl (lv_at hl 2 rfl) ?_
  refine lv_iload_n hx hb dX8_keep_10 rfl (lv_at hl 0 rfl) ?_
  obtain ⟨S8, eS8, h⟩ := zb_some h
  refine z_iast X hH hS eS8 dX8_keep_11 (fun H locs hH hS => ?_)
  refine lv_iconst (v := (0 : Int32)) hx hb dX8_keep_12 (by decide) ?_
  refine lv_istore_n (lv' := [(3, .int (0 : Int32)), (2, .int v6), (0, .ref x0), (1, .int x1)]) hx hb dX8_keep_13 rfl hl (by decide) rfl (fun ls hl => ?_)
  exact uX8_keep_14 X h _ _ _ hH hS (lv_sub hl [2, 3, 1, 0] rfl)
set_option maxRecDepth 100000 in
theorem kX8_keep {N : Nat} {r : Int32} {T : zS} {S : zS} {z : Nat} {x0 : Nat} {x1 : Int32} (h : fX8_keep N S x0 x1 = some (r, T)) : Met l yX8_keep [.code yX8_keep cX8_keep 4 (some .int)] { frames := 0, cells := 0, slots := 0, locals := 0 } (zP D cy A S z [.ref x0, .int x1]) (zQ D cy A T z (some (.int r))) 0 0 A := by
  refine z_met (lv := [(0, .ref x0), (1, .int x1)]) (by decide) (Nat.le_of_ble_eq_true rfl) rfl ?_
  intro p e s m below meth c X H locs ls hH hS hl
  exact wX8_keep_0 X h _ _ _ hH hS (lv_sub hl [0, 1] rfl)
set_option maxRecDepth 100000 in
set_option maxHeartbeats 4000000 in
theorem wX8_text_0 {z : Nat} {N : Nat} {r : Int32} {T : zS} (X : zX D cy p s m meth c cX8_text 2 RX8 (some .int))  {S : zS} {x0 : Nat} (h : fX8_text_0 N S x0 = some (r, T)) : zWt D cy A p l e { frames := 1, cells := 0, slots := 0, locals := 23 } s m args below meth c z 0 0 0 0 (zQ D cy A T z (some (.int r))) S 2 0 [(0, .ref x0)] [] := by
  obtain ⟨hx, hb, hml, hown, hr, hlocks, hT⟩ := id X
  intro H locs ls hH hS hl
  unfold fX8_text_0 at h
  refine lv_aload_n hx hb dX8_text_0 rfl (lv_at hl 0 rfl) ?_
  obtain ⟨v1, ev1, h⟩ := zb_some h
  refine z_geti X flX8_106 hH ev1 dX8_text_1 ?_
  refine lv_bipush (v := (20 : Int32)) hx hb dX8_text_4 (by decide) ?_
  refine lv_icmp_ne (tgt := 12) hx hb dX8_text_6 (by decide) (fun c => ?_) (fun c => ?_)
  · have h := (if_neg c).symm.trans h
    refine lv_aload_n hx hb dX8_text_12 rfl (lv_at hl 0 rfl) ?_
    refine lv_aload_n hx hb dX8_text_13 rfl (lv_at hl 0 rfl) ?_
    obtain ⟨v2, ev2, h⟩ := zb_some h
    refine z_geti X flX8_106 hH ev2 dX8_text_14 ?_
    obtain ⟨u3, eu3, h⟩ := zb_some h
    obtain ⟨v5, S4, eS4, h⟩ := zb2_some h
    refine z_cV (As := [.int v2]) X hl hH hS mlX8_109 eu3 (kX8_keep eS4) rfl rfl (Nat.le_of_ble_eq_true rfl) ⟨rfl, rfl, Nat.le_of_ble_eq_true rfl, Nat.le_of_ble_eq_true rfl⟩ ⟨Nat.le_refl _, Nat.le_refl _⟩ dX8_text_17 (fun H locs hH hS => ?_)
    refine lv_istore_n (lv' := [(1, .int v5), (0, .ref x0)]) hx hb dX8_text_20 rfl hl (by decide) rfl (fun ls hl => ?_)
    refine lv_aload_n hx hb dX8_text_21 rfl (lv_at hl 1 rfl) ?_
    refine lv_dup hx hb dX8_text_22 rfl ?_
    obtain ⟨v6, ev6, h⟩ := zb_some h
    refine z_geti X flX8_106 hH ev6 dX8_text_23 ?_
    refine lv_iconst (v := (1 : Int32)) hx hb dX8_text_26 (by decide) ?_
    refine lv_iadd hx hb dX8_text_27 ?_
    obtain ⟨S7, eS7, h⟩ := zb_some h
    refine z_puti X flX8_106 fpX8_3 hH hS eS7 dX8_text_28 (fun H locs hH hS => ?_)
    refine lv_aload_n hx hb dX8_text_31 rfl (lv_at hl 1 rfl) ?_
    obtain ⟨v8, ev8, h⟩ := zb_some h
    refine z_geti X flX8_106 hH ev8 dX8_text_32 ?_
    refine lv_iconst (v := (1 : Int32)) hx hb dX8_text_35 (by decide) ?_
    refine lv_isub hx hb dX8_text_36 ?_
    exact z_iret X hH hS h dX8_text_37
  · have h := (if_pos c).symm.trans h
    refine lv_bipush (v := (-3 : Int32)) hx hb dX8_text_9 (by decide) ?_
    exact z_iret X hH hS h dX8_text_11
set_option maxRecDepth 100000 in
theorem kX8_text {N : Nat} {r : Int32} {T : zS} {S : zS} {z : Nat} {x0 : Nat} (h : fX8_text N S x0 = some (r, T)) : Met l yX8_text [.code yX8_text cX8_text 2 (some .int)] { frames := 1, cells := 0, slots := 0, locals := 23 } (zP D cy A S z [.ref x0]) (zQ D cy A T z (some (.int r))) 0 0 A := by
  refine z_met (lv := [(0, .ref x0)]) (by decide) (Nat.le_of_ble_eq_true rfl) rfl ?_
  intro p e s m below meth c X H locs ls hH hS hl
  exact wX8_text_0 X h _ _ _ hH hS (lv_sub hl [0] rfl)
set_option maxRecDepth 100000 in
set_option maxHeartbeats 4000000 in
theorem wX8_isText_0 {z : Nat} {N : Nat} {r : Int32} {T : zS} (X : zX D cy p s m meth c cX8_isText 2 RX8 (some .boolean))  {S : zS} {x0 : Nat} {x1 : Int32} (h : fX8_isText_0 N S x0 x1 = some (r, T)) : zWt D cy A p l e { frames := 1, cells := 0, slots := 0, locals := 22 } s m args below meth c z 0 0 0 0 (zQ D cy A T z (some (.int r))) S 2 0 [(0, .ref x0), (1, .int x1)] [] := by
  obtain ⟨hx, hb, hml, hown, hr, hlocks, hT⟩ := id X
  intro H locs ls hH hS hl
  unfold fX8_isText_0 at h
  refine lv_iload_n hx hb dX8_isText_0 rfl (lv_at hl 1 rfl) ?_
  refine lv_iconst (v := (0 : Int32)) hx hb dX8_isText_1 (by decide) ?_
  refine lv_aload_n hx hb dX8_isText_2 rfl (lv_at hl 0 rfl) ?_
  obtain ⟨v1, ev1, h⟩ := zb_some h
  refine z_geti X flX8_106 hH ev1 dX8_isText_3 ?_
  refine lv_iconst (v := (1 : Int32)) hx hb dX8_isText_6 (by decide) ?_
  refine lv_isub hx hb dX8_isText_7 ?_
  obtain ⟨v3, S2, eS2, h⟩ := zb2_some h
  refine z_cS (As := [.int x1, .int (0 : Int32), .int (v1 - (1 : Int32))]) X hl hH hS mlX8_99 (kX8_in eS2) rfl rfl (Nat.le_of_ble_eq_true rfl) ⟨rfl, rfl, Nat.le_of_ble_eq_true rfl, Nat.le_of_ble_eq_true rfl⟩ ⟨Nat.le_refl _, Nat.le_refl _⟩ dX8_isText_8 (fun H locs hH hS => ?_)
  exact z_zret X hH hS h dX8_isText_11
set_option maxRecDepth 100000 in
theorem kX8_isText {N : Nat} {r : Int32} {T : zS} {S : zS} {z : Nat} {x0 : Nat} {x1 : Int32} (h : fX8_isText N S x0 x1 = some (r, T)) : Met l yX8_isText [.code yX8_isText cX8_isText 2 (some .boolean)] { frames := 1, cells := 0, slots := 0, locals := 22 } (zP D cy A S z [.ref x0, .int x1]) (zQ D cy A T z (some (.int r))) 0 0 A := by
  refine z_met (lv := [(0, .ref x0), (1, .int x1)]) (by decide) (Nat.le_of_ble_eq_true rfl) rfl ?_
  intro p e s m below meth c X H locs ls hH hS hl
  exact wX8_isText_0 X h _ _ _ hH hS (lv_sub hl [0, 1] rfl)
set_option maxRecDepth 100000 in
set_option maxHeartbeats 4000000 in
theorem wX8_isStep_0 {z : Nat} {N : Nat} {r : Int32} {T : zS} (X : zX D cy p s m meth c cX8_isStep 2 RX8 (some .boolean))  {S : zS} {x0 : Nat} {x1 : Int32} (h : fX8_isStep_0 N S x0 x1 = some (r, T)) : zWt D cy A p l e { frames := 1, cells := 0, slots := 0, locals := 22 } s m args below meth c z 0 0 0 0 (zQ D cy A T z (some (.int r))) S 2 0 [(0, .ref x0), (1, .int x1)] [] := by
  obtain ⟨hx, hb, hml, hown, hr, hlocks, hT⟩ := id X
  intro H locs ls hH hS hl
  unfold fX8_isStep_0 at h
  refine lv_iload_n hx hb dX8_isStep_0 rfl (lv_at hl 1 rfl) ?_
  refine lv_iconst (v := (0 : Int32)) hx hb dX8_isStep_1 (by decide) ?_
  refine lv_aload_n hx hb dX8_isStep_2 rfl (lv_at hl 0 rfl) ?_
  obtain ⟨v1, ev1, h⟩ := zb_some h
  refine z_geti X flX8_113 hH ev1 dX8_isStep_3 ?_
  refine lv_iconst (v := (1 : Int32)) hx hb dX8_isStep_6 (by decide) ?_
  refine lv_isub hx hb dX8_isStep_7 ?_
  obtain ⟨v3, S2, eS2, h⟩ := zb2_some h
  refine z_cS (As := [.int x1, .int (0 : Int32), .int (v1 - (1 : Int32))]) X hl hH hS mlX8_99 (kX8_in eS2) rfl rfl (Nat.le_of_ble_eq_true rfl) ⟨rfl, rfl, Nat.le_of_ble_eq_true rfl, Nat.le_of_ble_eq_true rfl⟩ ⟨Nat.le_refl _, Nat.le_refl _⟩ dX8_isStep_8 (fun H locs hH hS => ?_)
  exact z_zret X hH hS h dX8_isStep_11
set_option maxRecDepth 100000 in
theorem kX8_isStep {N : Nat} {r : Int32} {T : zS} {S : zS} {z : Nat} {x0 : Nat} {x1 : Int32} (h : fX8_isStep N S x0 x1 = some (r, T)) : Met l yX8_isStep [.code yX8_isStep cX8_isStep 2 (some .boolean)] { frames := 1, cells := 0, slots := 0, locals := 22 } (zP D cy A S z [.ref x0, .int x1]) (zQ D cy A T z (some (.int r))) 0 0 A := by
  refine z_met (lv := [(0, .ref x0), (1, .int x1)]) (by decide) (Nat.le_of_ble_eq_true rfl) rfl ?_
  intro p e s m below meth c X H locs ls hH hS hl
  exact wX8_isStep_0 X h _ _ _ hH hS (lv_sub hl [0, 1] rfl)
set_option maxRecDepth 100000 in
set_option maxHeartbeats 4000000 in
theorem wX8_isRoom_0 {z : Nat} {N : Nat} {r : Int32} {T : zS} (X : zX D cy p s m meth c cX8_isRoom 1 RX8 (some .boolean))  {S : zS} {x0 : Int32} (h : fX8_isRoom_0 N S x0 = some (r, T)) : zWt D cy A p l e { frames := 1, cells := 0, slots := 0, locals := 22 } s m args below meth c z 0 0 0 0 (zQ D cy A T z (some (.int r))) S 1 0 [(0, .int x0)] [] := by
  obtain ⟨hx, hb, hml, hown, hr, hlocks, hT⟩ := id X
  intro H locs ls hH hS hl
  unfold fX8_isRoom_0 at h
  refine lv_iload_n hx hb dX8_isRoom_0 rfl (lv_at hl 0 rfl) ?_
  refine lv_iconst (v := (0 : Int32)) hx hb dX8_isRoom_1 (by decide) ?_
  refine lv_bipush (v := (7 : Int32)) hx hb dX8_isRoom_2 (by decide) ?_
  obtain ⟨v2, S1, eS1, h⟩ := zb2_some h
  refine z_cS (As := [.int x0, .int (0 : Int32), .int (7 : Int32)]) X hl hH hS mlX8_99 (kX8_in eS1) rfl rfl (Nat.le_of_ble_eq_true rfl) ⟨rfl, rfl, Nat.le_of_ble_eq_true rfl, Nat.le_of_ble_eq_true rfl⟩ ⟨Nat.le_refl _, Nat.le_refl _⟩ dX8_isRoom_4 (fun H locs hH hS => ?_)
  exact z_zret X hH hS h dX8_isRoom_7
set_option maxRecDepth 100000 in
theorem kX8_isRoom {N : Nat} {r : Int32} {T : zS} {S : zS} {z : Nat} {x0 : Int32} (h : fX8_isRoom N S x0 = some (r, T)) : Met l yX8_isRoom [.code yX8_isRoom cX8_isRoom 1 (some .boolean)] { frames := 1, cells := 0, slots := 0, locals := 22 } (zP D cy A S z [.int x0]) (zQ D cy A T z (some (.int r))) 0 0 A := by
  refine z_met (lv := [(0, .int x0)]) (by decide) (Nat.le_of_ble_eq_true rfl) rfl ?_
  intro p e s m below meth c X H locs ls hH hS hl
  exact wX8_isRoom_0 X h _ _ _ hH hS (lv_sub hl [0] rfl)
set_option maxRecDepth 100000 in
set_option maxHeartbeats 4000000 in
theorem wX8_isWord_0 {z : Nat} {N : Nat} {r : Int32} {T : zS} (X : zX D cy p s m meth c cX8_isWord 1 RX8 (some .boolean))  {S : zS} {x0 : Int32} (h : fX8_isWord_0 N S x0 = some (r, T)) : zWt D cy A p l e { frames := 1, cells := 0, slots := 0, locals := 22 } s m args below meth c z 0 0 0 0 (zQ D cy A T z (some (.int r))) S 1 0 [(0, .int x0)] [] := by
  obtain ⟨hx, hb, hml, hown, hr, hlocks, hT⟩ := id X
  intro H locs ls hH hS hl
  unfold fX8_isWord_0 at h
  refine lv_iload_n hx hb dX8_isWord_0 rfl (lv_at hl 0 rfl) ?_
  refine lv_iconst (v := (0 : Int32)) hx hb dX8_isWord_1 (by decide) ?_
  refine lv_bipush (v := (7 : Int32)) hx hb dX8_isWord_2 (by decide) ?_
  obtain ⟨v2, S1, eS1, h⟩ := zb2_some h
  refine z_cS (As := [.int x0, .int (0 : Int32), .int (7 : Int32)]) X hl hH hS mlX8_99 (kX8_in eS1) rfl rfl (Nat.le_of_ble_eq_true rfl) ⟨rfl, rfl, Nat.le_of_ble_eq_true rfl, Nat.le_of_ble_eq_true rfl⟩ ⟨Nat.le_refl _, Nat.le_refl _⟩ dX8_isWord_4 (fun H locs hH hS => ?_)
  exact z_zret X hH hS h dX8_isWord_7
set_option maxRecDepth 100000 in
theorem kX8_isWord {N : Nat} {r : Int32} {T : zS} {S : zS} {z : Nat} {x0 : Int32} (h : fX8_isWord N S x0 = some (r, T)) : Met l yX8_isWord [.code yX8_isWord cX8_isWord 1 (some .boolean)] { frames := 1, cells := 0, slots := 0, locals := 22 } (zP D cy A S z [.int x0]) (zQ D cy A T z (some (.int r))) 0 0 A := by
  refine z_met (lv := [(0, .int x0)]) (by decide) (Nat.le_of_ble_eq_true rfl) rfl ?_
  intro p e s m below meth c X H locs ls hH hS hl
  exact wX8_isWord_0 X h _ _ _ hH hS (lv_sub hl [0] rfl)
set_option maxRecDepth 100000 in
set_option maxHeartbeats 4000000 in
theorem wX8_write_17 {z : Nat} {N : Nat} {r : Int32} {T : zS} (X : zX D cy p s m meth c cX8_write 2 RX8 (some .int))  {S : zS} {y0 : Int32} (h : fX8_write_17 N S y0 = some (r, T)) : zWt D cy A p l e { frames := 2, cells := 0, slots := 0, locals := 43 } s m args below meth c z 0 0 0 0 (zQ D cy A T z (some (.int r))) S 2 17 [] [.int y0] := by
  obtain ⟨hx, hb, hml, hown, hr, hlocks, hT⟩ := id X
  intro H locs ls hH hS hl
  unfold fX8_write_17 at h
  exact z_iret X hH hS h dX8_write_17
set_option maxRecDepth 100000 in
set_option maxHeartbeats 4000000 in
theorem wX8_write_0 {z : Nat} {N : Nat} {r : Int32} {T : zS} (X : zX D cy p s m meth c cX8_write 2 RX8 (some .int))  {S : zS} {x0 : Nat} {x1 : Int32} (h : fX8_write_0 N S x0 x1 = some (r, T)) : zWt D cy A p l e { frames := 2, cells := 0, slots := 0, locals := 43 } s m args below meth c z 0 0 0 0 (zQ D cy A T z (some (.int r))) S 2 0 [(0, .ref x0), (1, .int x1)] [] := by
  obtain ⟨hx, hb, hml, hown, hr, hlocks, hT⟩ := id X
  intro H locs ls hH hS hl
  unfold fX8_write_0 at h
  refine lv_aload_n hx hb dX8_write_0 rfl (lv_at hl 0 rfl) ?_
  refine lv_iload_n hx hb dX8_write_1 rfl (lv_at hl 1 rfl) ?_
  obtain ⟨u1, eu1, h⟩ := zb_some h
  obtain ⟨v3, S2, eS2, h⟩ := zb2_some h
  refine z_cV (As := [.int x1]) X hl hH hS mlX8_116 eu1 (kX8_isText eS2) rfl rfl (Nat.le_of_ble_eq_true rfl) ⟨rfl, rfl, Nat.le_of_ble_eq_true rfl, Nat.le_of_ble_eq_true rfl⟩ ⟨Nat.le_refl _, Nat.le_refl _⟩ dX8_write_2 (fun H locs hH hS => ?_)
  refine lv_if_eq (tgt := 16) hx hb dX8_write_5 (by decide) (fun c => ?_) (fun c => ?_)
  · have h := (if_pos c).symm.trans h
    refine lv_iconst (v := (-1 : Int32)) hx hb dX8_write_16 (by decide) ?_
    exact wX8_write_17 X h _ _ _ hH hS (lv_sub hl [] rfl)
  · have h := (if_neg c).symm.trans h
    refine lv_aload_n hx hb dX8_write_8 rfl (lv_at hl 0 rfl) ?_
    refine lv_iload_n hx hb dX8_write_9 rfl (lv_at hl 1 rfl) ?_
    obtain ⟨u4, eu4, h⟩ := zb_some h
    obtain ⟨v6, S5, eS5, h⟩ := zb2_some h
    refine z_cV (As := [.int x1]) X hl hH hS mlX8_109 eu4 (kX8_keep eS5) rfl rfl (Nat.le_of_ble_eq_true rfl) ⟨rfl, rfl, Nat.le_of_ble_eq_true rfl, Nat.le_of_ble_eq_true rfl⟩ ⟨Nat.le_refl _, Nat.le_refl _⟩ dX8_write_10 (fun H locs hH hS => ?_)
    refine lv_goto (tgt := 17) hx hb dX8_write_13 (by decide) ?_
    exact wX8_write_17 X h _ _ _ hH hS (lv_sub hl [] rfl)
set_option maxRecDepth 100000 in
theorem kX8_write {N : Nat} {r : Int32} {T : zS} {S : zS} {z : Nat} {x0 : Nat} {x1 : Int32} (h : fX8_write N S x0 x1 = some (r, T)) : Met l yX8_write [.code yX8_write cX8_write 2 (some .int)] { frames := 2, cells := 0, slots := 0, locals := 43 } (zP D cy A S z [.ref x0, .int x1]) (zQ D cy A T z (some (.int r))) 0 0 A := by
  refine z_met (lv := [(0, .ref x0), (1, .int x1)]) (by decide) (Nat.le_of_ble_eq_true rfl) rfl ?_
  intro p e s m below meth c X H locs ls hH hS hl
  exact wX8_write_0 X h _ _ _ hH hS (lv_sub hl [0, 1] rfl)
set_option maxRecDepth 100000 in
set_option maxHeartbeats 4000000 in
theorem wX8_lack_49 {z : Nat} {N : Nat} {r : Int32} {T : zS} (X : zX D cy p s m meth c cX8_lack 4 RX8 (some .int))  {S : zS} {x3 : Int32} {y0 : Nat} {y1 : Int32} {y2 : Int32} (h : fX8_lack_49 N S x3 y0 y1 y2 = some (r, T)) : zWt D cy A p l e { frames := 2, cells := 0, slots := 0, locals := 43 } s m args below meth c z 0 0 0 0 (zQ D cy A T z (some (.int r))) S 4 49 [(3, .int x3)] [.int y2, .int y1, .ref y0] := by
  obtain ⟨hx, hb, hml, hown, hr, hlocks, hT⟩ := id X
  intro H locs ls hH hS hl
  unfold fX8_lack_49 at h
  obtain ⟨S1, eS1, h⟩ := zb_some h
  refine z_zast X hH hS eS1 dX8_lack_49 (fun H locs hH hS => ?_)
  refine lv_iload_n hx hb dX8_lack_50 rfl (lv_at hl 0 rfl) ?_
  exact z_iret X hH hS h dX8_lack_51
set_option maxRecDepth 100000 in
set_option maxHeartbeats 4000000 in
theorem wX8_lack_33 {z : Nat} {N : Nat} {r : Int32} {T : zS} (X : zX D cy p s m meth c cX8_lack 4 RX8 (some .int))  {S : zS} {x0 : Nat} {x1 : Int32} {x2 : Int32} {y0 : Int32} (h : fX8_lack_33 N S x0 x1 x2 y0 = some (r, T)) : zWt D cy A p l e { frames := 2, cells := 0, slots := 0, locals := 43 } s m args below meth c z 0 0 0 0 (zQ D cy A T z (some (.int r))) S 4 33 [(0, .ref x0), (1, .int x1), (2, .int x2)] [.int y0] := by
  obtain ⟨hx, hb, hml, hown, hr, hlocks, hT⟩ := id X
  intro H locs ls hH hS hl
  unfold fX8_lack_33 at h
  refine lv_istore_n (lv' := [(3, .int y0), (0, .ref x0), (1, .int x1), (2, .int x2)]) hx hb dX8_lack_33 rfl hl (by decide) rfl (fun ls hl => ?_)
  refine lv_aload_n hx hb dX8_lack_34 rfl (lv_at hl 1 rfl) ?_
  obtain ⟨v2, ev2, h⟩ := zb_some h
  refine z_getr X flX8_19 hH ev2 dX8_lack_35 ?_
  refine lv_iload_n hx hb dX8_lack_38 rfl (lv_at hl 2 rfl) ?_
  refine lv_iload_n hx hb dX8_lack_39 rfl (lv_at hl 3 rfl) ?_
  refine lv_iconst (v := (1 : Int32)) hx hb dX8_lack_40 (by decide) ?_
  refine lv_icmp_ne (tgt := 48) hx hb dX8_lack_41 (by decide) (fun c => ?_) (fun c => ?_)
  · have h := (if_neg c).symm.trans h
    refine lv_iconst (v := (0 : Int32)) hx hb dX8_lack_48 (by decide) ?_
    exact wX8_lack_49 X h _ _ _ hH hS (lv_sub hl [0] rfl)
  · have h := (if_pos c).symm.trans h
    refine lv_iconst (v := (1 : Int32)) hx hb dX8_lack_44 (by decide) ?_
    refine lv_goto (tgt := 49) hx hb dX8_lack_45 (by decide) ?_
    exact wX8_lack_49 X h _ _ _ hH hS (lv_sub hl [0] rfl)
set_option maxRecDepth 100000 in
set_option maxHeartbeats 4000000 in
theorem wX8_lack_17 {z : Nat} {N : Nat} {r : Int32} {T : zS} (X : zX D cy p s m meth c cX8_lack 4 RX8 (some .int))  {S : zS} (h : fX8_lack_17 N S = some (r, T)) : zWt D cy A p l e { frames := 2, cells := 0, slots := 0, locals := 43 } s m args below meth c z 0 0 0 0 (zQ D cy A T z (some (.int r))) S 4 17 [] [] := by
  obtain ⟨hx, hb, hml, hown, hr, hlocks, hT⟩ := id X
  intro H locs ls hH hS hl
  unfold fX8_lack_17 at h
  refine lv_iconst (v := (-1 : Int32)) hx hb dX8_lack_17 (by decide) ?_
  exact z_iret X hH hS h dX8_lack_18
set_option maxRecDepth 100000 in
set_option maxHeartbeats 4000000 in
theorem wX8_lack_0 {z : Nat} {N : Nat} {r : Int32} {T : zS} (X : zX D cy p s m meth c cX8_lack 4 RX8 (some .int))  {S : zS} {x0 : Nat} {x1 : Int32} {x2 : Int32} (h : fX8_lack_0 N S x0 x1 x2 = some (r, T)) : zWt D cy A p l e { frames := 2, cells := 0, slots := 0, locals := 43 } s m args below meth c z 0 0 0 0 (zQ D cy A T z (some (.int r))) S 4 0 [(0, .ref x0), (1, .int x1), (2, .int x2)] [] := by
  obtain ⟨hx, hb, hml, hown, hr, hlocks, hT⟩ := id X
  intro H locs ls hH hS hl
  unfold fX8_lack_0 at h
  refine lv_aload_n hx hb dX8_lack_0 rfl (lv_at hl 0 rfl) ?_
  refine lv_iload_n hx hb dX8_lack_1 rfl (lv_at hl 1 rfl) ?_
  obtain ⟨u3, eu3, h⟩ := zb_some h
  obtain ⟨v5, S4, eS4, h⟩ := zb2_some h
  refine z_cV (As := [.int x1]) X hl hH hS mlX8_116 eu3 (kX8_isText eS4) rfl rfl (Nat.le_of_ble_eq_true rfl) ⟨rfl, rfl, Nat.le_of_ble_eq_true rfl, Nat.le_of_ble_eq_true rfl⟩ ⟨Nat.le_refl _, Nat.le_refl _⟩ dX8_lack_2 (fun H locs hH hS => ?_)
  refine lv_if_eq (tgt := 17) hx hb dX8_lack_5 (by decide) (fun c => ?_) (fun c => ?_)
  · have h := (if_pos c).symm.trans h
    exact wX8_lack_17 X h _ _ _ hH hS (lv_sub hl [] rfl)
  · have h := (if_neg c).symm.trans h
    refine lv_iload_n hx hb dX8_lack_8 rfl (lv_at hl 2 rfl) ?_
    refine lv_iconst (v := (0 : Int32)) hx hb dX8_lack_9 (by decide) ?_
    refine lv_iconst (v := (1 : Int32)) hx hb dX8_lack_10 (by decide) ?_
    obtain ⟨v7, S6, eS6, h⟩ := zb2_some h
    refine z_cS (As := [.int x2, .int (0 : Int32), .int (1 : Int32)]) X hl hH hS mlX8_99 (kX8_in eS6) rfl rfl (Nat.le_of_ble_eq_true rfl) ⟨rfl, rfl, Nat.le_of_ble_eq_true rfl, Nat.le_of_ble_eq_true rfl⟩ ⟨Nat.le_refl _, Nat.le_refl _⟩ dX8_lack_11 (fun H locs hH hS => ?_)
    refine lv_if_ne (tgt := 19) hx hb dX8_lack_14 (by decide) (fun c => ?_) (fun c => ?_)
    · have h := (if_neg c).symm.trans h
      refine lv_aload_n hx hb dX8_lack_19 rfl (lv_at hl 0 rfl) ?_
      obtain ⟨v8, ev8, h⟩ := zb_some h
      refine z_getr X flX8_19 hH ev8 dX8_lack_20 ?_
      refine lv_iload_n hx hb dX8_lack_23 rfl (lv_at hl 1 rfl) ?_
      obtain ⟨v9, ev9, h⟩ := zb_some h
      refine z_zald X hH ev9 dX8_lack_24 ?_
      refine lv_if_eq (tgt := 32) hx hb dX8_lack_25 (by decide) (fun c => ?_) (fun c => ?_)
      · have h := (if_pos c).symm.trans h
        refine lv_iconst (v := (0 : Int32)) hx hb dX8_lack_32 (by decide) ?_
        exact wX8_lack_33 X h _ _ _ hH hS (lv_sub hl [0, 1, 2] rfl)
      · have h := (if_neg c).symm.trans h
        refine lv_iconst (v := (1 : Int32)) hx hb dX8_lack_28 (by decide) ?_
        refine lv_goto (tgt := 33) hx hb dX8_lack_29 (by decide) ?_
        exact wX8_lack_33 X h _ _ _ hH hS (lv_sub hl [0, 1, 2] rfl)
    · have h := (if_pos c).symm.trans h
      exact wX8_lack_17 X h _ _ _ hH hS (lv_sub hl [] rfl)
set_option maxRecDepth 100000 in
theorem kX8_lack {N : Nat} {r : Int32} {T : zS} {S : zS} {z : Nat} {x0 : Nat} {x1 : Int32} {x2 : Int32} (h : fX8_lack N S x0 x1 x2 = some (r, T)) : Met l yX8_lack [.code yX8_lack cX8_lack 4 (some .int)] { frames := 2, cells := 0, slots := 0, locals := 43 } (zP D cy A S z [.ref x0, .int x1, .int x2]) (zQ D cy A T z (some (.int r))) 0 0 A := by
  refine z_met (lv := [(0, .ref x0), (1, .int x1), (2, .int x2)]) (by decide) (Nat.le_of_ble_eq_true rfl) rfl ?_
  intro p e s m below meth c X H locs ls hH hS hl
  exact wX8_lack_0 X h _ _ _ hH hS (lv_sub hl [0, 1, 2] rfl)
set_option maxRecDepth 100000 in
set_option maxHeartbeats 4000000 in
theorem wX8_word_25 {z : Nat} {N : Nat} {r : Int32} {T : zS} (X : zX D cy p s m meth c cX8_word 5 RX8 (some .int))  {S : zS} (h : fX8_word_25 N S = some (r, T)) : zWt D cy A p l e { frames := 2, cells := 0, slots := 0, locals := 42 } s m args below meth c z 0 0 0 0 (zQ D cy A T z (some (.int r))) S 5 25 [] [] := by
  obtain ⟨hx, hb, hml, hown, hr, hlocks, hT⟩ := id X
  intro H locs ls hH hS hl
  unfold fX8_word_25 at h
  refine lv_iconst (v := (-1 : Int32)) hx hb dX8_word_25 (by decide) ?_
  exact z_iret X hH hS h dX8_word_26
set_option maxRecDepth 100000 in
set_option maxHeartbeats 4000000 in
theorem wX8_word_0 {z : Nat} {N : Nat} {r : Int32} {T : zS} (X : zX D cy p s m meth c cX8_word 5 RX8 (some .int))  {S : zS} {x0 : Nat} {x1 : Int32} {x2 : Int32} {x3 : Int32} (h : fX8_word_0 N S x0 x1 x2 x3 = some (r, T)) : zWt D cy A p l e { frames := 2, cells := 0, slots := 0, locals := 42 } s m args below meth c z 0 0 0 0 (zQ D cy A T z (some (.int r))) S 5 0 [(0, .ref x0), (1, .int x1), (2, .int x2), (3, .int x3)] [] := by
  obtain ⟨hx, hb, hml, hown, hr, hlocks, hT⟩ := id X
  intro H locs ls hH hS hl
  unfold fX8_word_0 at h
  refine lv_iload_n hx hb dX8_word_0 rfl (lv_at hl 1 rfl) ?_
  obtain ⟨v2, S1, eS1, h⟩ := zb2_some h
  refine z_cS (As := [.int x1]) X hl hH hS mlX8_120 (kX8_isRoom eS1) rfl rfl (Nat.le_of_ble_eq_true rfl) ⟨rfl, rfl, Nat.le_of_ble_eq_true rfl, Nat.le_of_ble_eq_true rfl⟩ ⟨Nat.le_refl _, Nat.le_refl _⟩ dX8_word_1 (fun H locs hH hS => ?_)
  refine lv_if_eq (tgt := 25) hx hb dX8_word_4 (by decide) (fun c => ?_) (fun c => ?_)
  · have h := (if_pos c).symm.trans h
    exact wX8_word_25 X h _ _ _ hH hS (lv_sub hl [] rfl)
  · have h := (if_neg c).symm.trans h
    refine lv_iload_n hx hb dX8_word_7 rfl (lv_at hl 2 rfl) ?_
    obtain ⟨v4, S3, eS3, h⟩ := zb2_some h
    refine z_cS (As := [.int x2]) X hl hH hS mlX8_123 (kX8_isWord eS3) rfl rfl (Nat.le_of_ble_eq_true rfl) ⟨rfl, rfl, Nat.le_of_ble_eq_true rfl, Nat.le_of_ble_eq_true rfl⟩ ⟨Nat.le_refl _, Nat.le_refl _⟩ dX8_word_8 (fun H locs hH hS => ?_)
    refine lv_if_eq (tgt := 25) hx hb dX8_word_11 (by decide) (fun c => ?_) (fun c => ?_)
    · have h := (if_pos c).symm.trans h
      exact wX8_word_25 X h _ _ _ hH hS (lv_sub hl [] rfl)
    · have h := (if_neg c).symm.trans h
      refine lv_iload_n hx hb dX8_word_14 rfl (lv_at hl 3 rfl) ?_
      refine lv_iconst (v := (0 : Int32)) hx hb dX8_word_15 (by decide) ?_
      refine lv_sipush (v := (255 : Int32)) hx hb dX8_word_16 (by decide) ?_
      obtain ⟨v6, S5, eS5, h⟩ := zb2_some h
      refine z_cS (As := [.int x3, .int (0 : Int32), .int (255 : Int32)]) X hl hH hS mlX8_99 (kX8_in eS5) rfl rfl (Nat.le_of_ble_eq_true rfl) ⟨rfl, rfl, Nat.le_of_ble_eq_true rfl, Nat.le_of_ble_eq_true rfl⟩ ⟨Nat.le_refl _, Nat.le_refl _⟩ dX8_word_19 (fun H locs hH hS => ?_)
      refine lv_if_ne (tgt := 27) hx hb dX8_word_22 (by decide) (fun c => ?_) (fun c => ?_)
      · have h := (if_neg c).symm.trans h
        refine lv_aload_n hx hb dX8_word_27 rfl (lv_at hl 0 rfl) ?_
        obtain ⟨v7, ev7, h⟩ := zb_some h
        refine z_getr X flX8_23 hH ev7 dX8_word_28 ?_
        refine lv_bipush (v := (8 : Int32)) hx hb dX8_word_31 (by decide) ?_
        refine lv_iload_n hx hb dX8_word_33 rfl (lv_at hl 1 rfl) ?_
        refine lv_imul hx hb dX8_word_34 ?_
        refine lv_iload_n hx hb dX8_word_35 rfl (lv_at hl 2 rfl) ?_
        refine lv_iadd hx hb dX8_word_36 ?_
        obtain ⟨v8, ev8, h⟩ := zb_some h
        refine z_iald X hH ev8 dX8_word_37 ?_
        refine lv_istore (lv' := [(4, .int v8), (0, .ref x0), (1, .int x1), (2, .int x2), (3, .int x3)]) hx hb dX8_word_38 hl (by decide) rfl (fun ls hl => ?_)
        refine lv_aload_n hx hb dX8_word_40 rfl (lv_at hl 1 rfl) ?_
        obtain ⟨v9, ev9, h⟩ := zb_some h
        refine z_getr X flX8_23 hH ev9 dX8_word_41 ?_
        refine lv_bipush (v := (8 : Int32)) hx hb dX8_word_44 (by decide) ?_
        refine lv_iload_n hx hb dX8_word_46 rfl (lv_at hl 2 rfl) ?_
        refine lv_imul hx hb dX8_word_47 ?_
        refine lv_iload_n hx hb dX8_word_48 rfl (lv_at hl 3 rfl) ?_
        refine lv_iadd hx hb dX8_word_49 ?_
        refine lv_iload_n hx hb dX8_word_50 rfl (lv_at hl 4 rfl) ?_
        obtain ⟨S10, eS10, h⟩ := zb_some h
        refine z_iast X hH hS eS10 dX8_word_51 (fun H locs hH hS => ?_)
        refine lv_iload hx hb dX8_word_52 (lv_at hl 0 rfl) ?_
        exact z_iret X hH hS h dX8_word_54
      · have h := (if_pos c).symm.trans h
        exact wX8_word_25 X h _ _ _ hH hS (lv_sub hl [] rfl)
set_option maxRecDepth 100000 in
theorem kX8_word {N : Nat} {r : Int32} {T : zS} {S : zS} {z : Nat} {x0 : Nat} {x1 : Int32} {x2 : Int32} {x3 : Int32} (h : fX8_word N S x0 x1 x2 x3 = some (r, T)) : Met l yX8_word [.code yX8_word cX8_word 5 (some .int)] { frames := 2, cells := 0, slots := 0, locals := 42 } (zP D cy A S z [.ref x0, .int x1, .int x2, .int x3]) (zQ D cy A T z (some (.int r))) 0 0 A := by
  refine z_met (lv := [(0, .ref x0), (1, .int x1), (2, .int x2), (3, .int x3)]) (by decide) (Nat.le_of_ble_eq_true rfl) rfl ?_
  intro p e s m below meth c X H locs ls hH hS hl
  exact wX8_word_0 X h _ _ _ hH hS (lv_sub hl [0, 1, 2, 3] rfl)
set_option maxRecDepth 100000 in
set_option maxHeartbeats 4000000 in
theorem wX8_copy_61 {z : Nat} {N : Nat} {r : Int32} {T : zS} (X : zX D cy p s m meth c cX8_copy 5 RX8 (some .int)) {K21 : zS × Nat × Int32 × Int32 × Int32 × Int32 → Option (Int32 × zS)} (hK21 : ∀ (S : zS) (x0 : Nat) (x1 : Int32) (x2 : Int32) (x3 : Int32) (x4 : Int32), K21 (S, x0, x1, x2, x3, x4) = some (r, T) → zWt D cy A p l e { frames := 2, cells := 0, slots := 0, locals := 42 } s m args below meth c z 0 0 0 0 (zQ D cy A T z (some (.int r))) S 5 21 [(0, .ref x0), (1, .int x1), (2, .int x2), (3, .int x3), (4, .int x4)] []) {S : zS} {x0 : Nat} {x1 : Int32} {x2 : Int32} {x4 : Int32} {y0 : Int32} {y1 : Int32} (h : fX8_copy_61 N K21 S x0 x1 x2 x4 y0 y1 = some (r, T)) : zWt D cy A p l e { frames := 2, cells := 0, slots := 0, locals := 42 } s m args below meth c z 0 0 0 0 (zQ D cy A T z (some (.int r))) S 5 61 [(0, .ref x0), (1, .int x1), (2, .int x2), (4, .int x4)] [.int y1, .int y0] := by
  obtain ⟨hx, hb, hml, hown, hr, hlocks, hT⟩ := id X
  intro H locs ls hH hS hl
  unfold fX8_copy_61 at h
  refine lv_iadd hx hb dX8_copy_61 ?_
  refine lv_istore_n (lv' := [(3, .int (y0 + y1)), (0, .ref x0), (1, .int x1), (2, .int x2), (4, .int x4)]) hx hb dX8_copy_62 rfl hl (by decide) rfl (fun ls hl => ?_)
  refine lv_aload_n hx hb dX8_copy_63 rfl (lv_at hl 1 rfl) ?_
  obtain ⟨v1, ev1, h⟩ := zb_some h
  refine z_getr X flX8_23 hH ev1 dX8_copy_64 ?_
  refine lv_bipush (v := (8 : Int32)) hx hb dX8_copy_67 (by decide) ?_
  refine lv_iload_n hx hb dX8_copy_69 rfl (lv_at hl 3 rfl) ?_
  refine lv_imul hx hb dX8_copy_70 ?_
  refine lv_iload hx hb dX8_copy_71 (lv_at hl 4 rfl) ?_
  refine lv_iadd hx hb dX8_copy_73 ?_
  refine lv_aload_n hx hb dX8_copy_74 rfl (lv_at hl 1 rfl) ?_
  obtain ⟨v2, ev2, h⟩ := zb_some h
  refine z_getr X flX8_23 hH ev2 dX8_copy_75 ?_
  refine lv_bipush (v := (8 : Int32)) hx hb dX8_copy_78 (by decide) ?_
  refine lv_iload_n hx hb dX8_copy_80 rfl (lv_at hl 2 rfl) ?_
  refine lv_imul hx hb dX8_copy_81 ?_
  refine lv_iload hx hb dX8_copy_82 (lv_at hl 4 rfl) ?_
  refine lv_iadd hx hb dX8_copy_84 ?_
  obtain ⟨v3, ev3, h⟩ := zb_some h
  refine z_iald X hH ev3 dX8_copy_85 ?_
  obtain ⟨S4, eS4, h⟩ := zb_some h
  refine z_iast X hH hS eS4 dX8_copy_86 (fun H locs hH hS => ?_)
  refine lv_iinc (v := (x4 + (1 : Int32))) (lv' := [(4, .int (x4 + (1 : Int32))), (3, .int (y0 + y1)), (0, .ref x0), (1, .int x1), (2, .int x2)]) hx hb dX8_copy_87 hl (k := 4) rfl (z_ii (by decide) _) (by decide) rfl (fun ls hl => ?_)
  refine lv_goto (tgt := 21) hx hb dX8_copy_90 (by decide) ?_
  exact hK21 _ _ _ _ _ _ h _ _ _ hH hS (lv_sub hl [2, 3, 4, 1, 0] rfl)
set_option maxRecDepth 100000 in
set_option maxHeartbeats 4000000 in
theorem wX8_copy_21 {z : Nat} {N : Nat} {r : Int32} {T : zS} (X : zX D cy p s m meth c cX8_copy 5 RX8 (some .int)) {K21 : zS × Nat × Int32 × Int32 × Int32 × Int32 → Option (Int32 × zS)} (hK21 : ∀ (S : zS) (x0 : Nat) (x1 : Int32) (x2 : Int32) (x3 : Int32) (x4 : Int32), K21 (S, x0, x1, x2, x3, x4) = some (r, T) → zWt D cy A p l e { frames := 2, cells := 0, slots := 0, locals := 42 } s m args below meth c z 0 0 0 0 (zQ D cy A T z (some (.int r))) S 5 21 [(0, .ref x0), (1, .int x1), (2, .int x2), (3, .int x3), (4, .int x4)] []) {S : zS} {x0 : Nat} {x1 : Int32} {x2 : Int32} {x3 : Int32} {x4 : Int32} (h : fX8_copy_21 N K21 S x0 x1 x2 x3 x4 = some (r, T)) : zWt D cy A p l e { frames := 2, cells := 0, slots := 0, locals := 42 } s m args below meth c z 0 0 0 0 (zQ D cy A T z (some (.int r))) S 5 21 [(0, .ref x0), (1, .int x1), (2, .int x2), (3, .int x3), (4, .int x4)] [] := by
  obtain ⟨hx, hb, hml, hown, hr, hlocks, hT⟩ := id X
  intro H locs ls hH hS hl
  unfold fX8_copy_21 at h
  refine lv_iload hx hb dX8_copy_21 (lv_at hl 4 rfl) ?_
  refine lv_bipush (v := (8 : Int32)) hx hb dX8_copy_23 (by decide) ?_
  refine lv_icmp_ge (tgt := 93) hx hb dX8_copy_25 (by decide) (fun c => ?_) (fun c => ?_)
  · have h := (if_pos c).symm.trans h
    refine lv_iload_n hx hb dX8_copy_93 rfl (lv_at hl 3 rfl) ?_
    exact z_iret X hH hS h dX8_copy_94
  · have h := (if_neg c).symm.trans h
    refine lv_iload_n hx hb dX8_copy_28 rfl (lv_at hl 3 rfl) ?_
    refine lv_aload_n hx hb dX8_copy_29 rfl (lv_at hl 0 rfl) ?_
    obtain ⟨v5, ev5, h⟩ := zb_some h
    refine z_getr X flX8_23 hH ev5 dX8_copy_30 ?_
    refine lv_bipush (v := (8 : Int32)) hx hb dX8_copy_33 (by decide) ?_
    refine lv_iload_n hx hb dX8_copy_35 rfl (lv_at hl 1 rfl) ?_
    refine lv_imul hx hb dX8_copy_36 ?_
    refine lv_iload hx hb dX8_copy_37 (lv_at hl 4 rfl) ?_
    refine lv_iadd hx hb dX8_copy_39 ?_
    obtain ⟨v6, ev6, h⟩ := zb_some h
    refine z_iald X hH ev6 dX8_copy_40 ?_
    refine lv_aload_n hx hb dX8_copy_41 rfl (lv_at hl 0 rfl) ?_
    obtain ⟨v7, ev7, h⟩ := zb_some h
    refine z_getr X flX8_23 hH ev7 dX8_copy_42 ?_
    refine lv_bipush (v := (8 : Int32)) hx hb dX8_copy_45 (by decide) ?_
    refine lv_iload_n hx hb dX8_copy_47 rfl (lv_at hl 2 rfl) ?_
    refine lv_imul hx hb dX8_copy_48 ?_
    refine lv_iload hx hb dX8_copy_49 (lv_at hl 4 rfl) ?_
    refine lv_iadd hx hb dX8_copy_51 ?_
    obtain ⟨v8, ev8, h⟩ := zb_some h
    refine z_iald X hH ev8 dX8_copy_52 ?_
    refine lv_icmp_ne (tgt := 60) hx hb dX8_copy_53 (by decide) (fun c => ?_) (fun c => ?_)
    · have h := (if_neg c).symm.trans h
      refine lv_iconst (v := (1 : Int32)) hx hb dX8_copy_60 (by decide) ?_
      exact wX8_copy_61 X hK21 h _ _ _ hH hS (lv_sub hl [0, 1, 2, 4] rfl)
    · have h := (if_pos c).symm.trans h
      refine lv_iconst (v := (0 : Int32)) hx hb dX8_copy_56 (by decide) ?_
      refine lv_goto (tgt := 61) hx hb dX8_copy_57 (by decide) ?_
      exact wX8_copy_61 X hK21 h _ _ _ hH hS (lv_sub hl [0, 1, 2, 4] rfl)
set_option maxRecDepth 100000 in
set_option maxHeartbeats 4000000 in
theorem uX8_copy_21 {z : Nat} {N : Nat} {r : Int32} {T : zS} (X : zX D cy p s m meth c cX8_copy 5 RX8 (some .int))  {S : zS} {x0 : Nat} {x1 : Int32} {x2 : Int32} {x3 : Int32} {x4 : Int32} (h : lX8_copy_21 N S x0 x1 x2 x3 x4 = some (r, T)) : zWt D cy A p l e { frames := 2, cells := 0, slots := 0, locals := 42 } s m args below meth c z 0 0 0 0 (zQ D cy A T z (some (.int r))) S 5 21 [(0, .ref x0), (1, .int x1), (2, .int x2), (3, .int x3), (4, .int x4)] [] := by
  unfold lX8_copy_21 at h
  refine zloop_ind (P := fun y => zWt D cy A p l e { frames := 2, cells := 0, slots := 0, locals := 42 } s m args below meth c z 0 0 0 0 (zQ D cy A T z (some (.int r))) y.1 5 21 [(0, .ref y.2.1), (1, .int y.2.2.1), (2, .int y.2.2.2.1), (3, .int y.2.2.2.2.1), (4, .int y.2.2.2.2.2)] []) ?_ N (S, x0, x1, x2, x3, x4) h
  intro K hK y hy
  obtain ⟨S, x0, x1, x2, x3, x4⟩ := y
  exact wX8_copy_21 X (fun S x0 x1 x2 x3 x4 hq => hK (S, x0, x1, x2, x3, x4) hq) hy
set_option maxRecDepth 100000 in
set_option maxHeartbeats 4000000 in
theorem wX8_copy_14 {z : Nat} {N : Nat} {r : Int32} {T : zS} (X : zX D cy p s m meth c cX8_copy 5 RX8 (some .int))  {S : zS} (h : fX8_copy_14 N S = some (r, T)) : zWt D cy A p l e { frames := 2, cells := 0, slots := 0, locals := 42 } s m args below meth c z 0 0 0 0 (zQ D cy A T z (some (.int r))) S 5 14 [] [] := by
  obtain ⟨hx, hb, hml, hown, hr, hlocks, hT⟩ := id X
  intro H locs ls hH hS hl
  unfold fX8_copy_14 at h
  refine lv_iconst (v := (-1 : Int32)) hx hb dX8_copy_14 (by decide) ?_
  exact z_iret X hH hS h dX8_copy_15
set_option maxRecDepth 100000 in
set_option maxHeartbeats 4000000 in
theorem wX8_copy_0 {z : Nat} {N : Nat} {r : Int32} {T : zS} (X : zX D cy p s m meth c cX8_copy 5 RX8 (some .int))  {S : zS} {x0 : Nat} {x1 : Int32} {x2 : Int32} (h : fX8_copy_0 N S x0 x1 x2 = some (r, T)) : zWt D cy A p l e { frames := 2, cells := 0, slots := 0, locals := 42 } s m args below meth c z 0 0 0 0 (zQ D cy A T z (some (.int r))) S 5 0 [(0, .ref x0), (1, .int x1), (2, .int x2)] [] := by
  obtain ⟨hx, hb, hml, hown, hr, hlocks, hT⟩ := id X
  intro H locs ls hH hS hl
  unfold fX8_copy_0 at h
  refine lv_iload_n hx hb dX8_copy_0 rfl (lv_at hl 1 rfl) ?_
  obtain ⟨v10, S9, eS9, h⟩ := zb2_some h
  refine z_cS (As := [.int x1]) X hl hH hS mlX8_120 (kX8_isRoom eS9) rfl rfl (Nat.le_of_ble_eq_true rfl) ⟨rfl, rfl, Nat.le_of_ble_eq_true rfl, Nat.le_of_ble_eq_true rfl⟩ ⟨Nat.le_refl _, Nat.le_refl _⟩ dX8_copy_1 (fun H locs hH hS => ?_)
  refine lv_if_eq (tgt := 14) hx hb dX8_copy_4 (by decide) (fun c => ?_) (fun c => ?_)
  · have h := (if_pos c).symm.trans h
    exact wX8_copy_14 X h _ _ _ hH hS (lv_sub hl [] rfl)
  · have h := (if_neg c).symm.trans h
    refine lv_iload_n hx hb dX8_copy_7 rfl (lv_at hl 2 rfl) ?_
    obtain ⟨v12, S11, eS11, h⟩ := zb2_some h
    refine z_cS (As := [.int x2]) X hl hH hS mlX8_120 (kX8_isRoom eS11) rfl rfl (Nat.le_of_ble_eq_true rfl) ⟨rfl, rfl, Nat.le_of_ble_eq_true rfl, Nat.le_of_ble_eq_true rfl⟩ ⟨Nat.le_refl _, Nat.le_refl _⟩ dX8_copy_8 (fun H locs hH hS => ?_)
    refine lv_if_ne (tgt := 16) hx hb dX8_copy_11 (by decide) (fun c => ?_) (fun c => ?_)
    · have h := (if_neg c).symm.trans h
      refine lv_iconst (v := (0 : Int32)) hx hb dX8_copy_16 (by decide) ?_
      refine lv_istore_n (lv' := [(3, .int (0 : Int32)), (0, .ref x0), (1, .int x1), (2, .int x2)]) hx hb dX8_copy_17 rfl hl (by decide) rfl (fun ls hl => ?_)
      refine lv_iconst (v := (0 : Int32)) hx hb dX8_copy_18 (by decide) ?_
      refine lv_istore (lv' := [(4, .int (0 : Int32)), (3, .int (0 : Int32)), (0, .ref x0), (1, .int x1), (2, .int x2)]) hx hb dX8_copy_19 hl (by decide) rfl (fun ls hl => ?_)
      exact uX8_copy_21 X h _ _ _ hH hS (lv_sub hl [2, 3, 4, 1, 0] rfl)
    · have h := (if_pos c).symm.trans h
      exact wX8_copy_14 X h _ _ _ hH hS (lv_sub hl [] rfl)
set_option maxRecDepth 100000 in
theorem kX8_copy {N : Nat} {r : Int32} {T : zS} {S : zS} {z : Nat} {x0 : Nat} {x1 : Int32} {x2 : Int32} (h : fX8_copy N S x0 x1 x2 = some (r, T)) : Met l yX8_copy [.code yX8_copy cX8_copy 5 (some .int)] { frames := 2, cells := 0, slots := 0, locals := 42 } (zP D cy A S z [.ref x0, .int x1, .int x2]) (zQ D cy A T z (some (.int r))) 0 0 A := by
  refine z_met (lv := [(0, .ref x0), (1, .int x1), (2, .int x2)]) (by decide) (Nat.le_of_ble_eq_true rfl) rfl ?_
  intro p e s m below meth c X H locs ls hH hS hl
  exact wX8_copy_0 X h _ _ _ hH hS (lv_sub hl [0, 1, 2] rfl)
set_option maxRecDepth 100000 in
set_option maxHeartbeats 4000000 in
theorem wX8_step_31 {z : Nat} {N : Nat} {r : Int32} {T : zS} (X : zX D cy p s m meth c cX8_step 4 RX8 (some .int))  {S : zS} (h : fX8_step_31 N S = some (r, T)) : zWt D cy A p l e { frames := 1, cells := 0, slots := 0, locals := 22 } s m args below meth c z 0 0 0 0 (zQ D cy A T z (some (.int r))) S 4 31 [] [] := by
  obtain ⟨hx, hb, hml, hown, hr, hlocks, hT⟩ := id X
  intro H locs ls hH hS hl
  unfold fX8_step_31 at h
  refine lv_iconst (v := (-1 : Int32)) hx hb dX8_step_31 (by decide) ?_
  exact z_iret X hH hS h dX8_step_32
set_option maxRecDepth 100000 in
set_option maxHeartbeats 4000000 in
theorem wX8_step_0 {z : Nat} {N : Nat} {r : Int32} {T : zS} (X : zX D cy p s m meth c cX8_step 4 RX8 (some .int))  {S : zS} {x0 : Nat} {x1 : Int32} {x2 : Int32} {x3 : Int32} (h : fX8_step_0 N S x0 x1 x2 x3 = some (r, T)) : zWt D cy A p l e { frames := 1, cells := 0, slots := 0, locals := 22 } s m args below meth c z 0 0 0 0 (zQ D cy A T z (some (.int r))) S 4 0 [(0, .ref x0), (1, .int x1), (2, .int x2), (3, .int x3)] [] := by
  obtain ⟨hx, hb, hml, hown, hr, hlocks, hT⟩ := id X
  intro H locs ls hH hS hl
  unfold fX8_step_0 at h
  refine lv_iload_n hx hb dX8_step_0 rfl (lv_at hl 1 rfl) ?_
  refine lv_iconst (v := (0 : Int32)) hx hb dX8_step_1 (by decide) ?_
  refine lv_bipush (v := (7 : Int32)) hx hb dX8_step_2 (by decide) ?_
  obtain ⟨v2, S1, eS1, h⟩ := zb2_some h
  refine z_cS (As := [.int x1, .int (0 : Int32), .int (7 : Int32)]) X hl hH hS mlX8_99 (kX8_in eS1) rfl rfl (Nat.le_of_ble_eq_true rfl) ⟨rfl, rfl, Nat.le_of_ble_eq_true rfl, Nat.le_of_ble_eq_true rfl⟩ ⟨Nat.le_refl _, Nat.le_refl _⟩ dX8_step_4 (fun H locs hH hS => ?_)
  refine lv_if_eq (tgt := 31) hx hb dX8_step_7 (by decide) (fun c => ?_) (fun c => ?_)
  · have h := (if_pos c).symm.trans h
    exact wX8_step_31 X h _ _ _ hH hS (lv_sub hl [] rfl)
  · have h := (if_neg c).symm.trans h
    refine lv_iload_n hx hb dX8_step_10 rfl (lv_at hl 2 rfl) ?_
    refine lv_iconst (v := (0 : Int32)) hx hb dX8_step_11 (by decide) ?_
    refine lv_sipush (v := (255 : Int32)) hx hb dX8_step_12 (by decide) ?_
    obtain ⟨v4, S3, eS3, h⟩ := zb2_some h
    refine z_cS (As := [.int x2, .int (0 : Int32), .int (255 : Int32)]) X hl hH hS mlX8_99 (kX8_in eS3) rfl rfl (Nat.le_of_ble_eq_true rfl) ⟨rfl, rfl, Nat.le_of_ble_eq_true rfl, Nat.le_of_ble_eq_true rfl⟩ ⟨Nat.le_refl _, Nat.le_refl _⟩ dX8_step_15 (fun H locs hH hS => ?_)
    refine lv_if_eq (tgt := 31) hx hb dX8_step_18 (by decide) (fun c => ?_) (fun c => ?_)
    · have h := (if_pos c).symm.trans h
      exact wX8_step_31 X h _ _ _ hH hS (lv_sub hl [] rfl)
    · have h := (if_neg c).symm.trans h
      refine lv_iload_n hx hb dX8_step_21 rfl (lv_at hl 3 rfl) ?_
      refine lv_iconst (v := (0 : Int32)) hx hb dX8_step_22 (by decide) ?_
      refine lv_bipush (v := (7 : Int32)) hx hb dX8_step_23 (by decide) ?_
      obtain ⟨v6, S5, eS5, h⟩ := zb2_some h
      refine z_cS (As := [.int x3, .int (0 : Int32), .int (7 : Int32)]) X hl hH hS mlX8_99 (kX8_in eS5) rfl rfl (Nat.le_of_ble_eq_true rfl) ⟨rfl, rfl, Nat.le_of_ble_eq_true rfl, Nat.le_of_ble_eq_true rfl⟩ ⟨Nat.le_refl _, Nat.le_refl _⟩ dX8_step_25 (fun H locs hH hS => ?_)
      refine lv_if_ne (tgt := 33) hx hb dX8_step_28 (by decide) (fun c => ?_) (fun c => ?_)
      · have h := (if_neg c).symm.trans h
        refine lv_aload_n hx hb dX8_step_33 rfl (lv_at hl 0 rfl) ?_
        obtain ⟨v7, ev7, h⟩ := zb_some h
        refine z_geti X flX8_113 hH ev7 dX8_step_34 ?_
        refine lv_bipush (v := (24 : Int32)) hx hb dX8_step_37 (by decide) ?_
        refine lv_icmp_ne (tgt := 45) hx hb dX8_step_39 (by decide) (fun c => ?_) (fun c => ?_)
        · have h := (if_neg c).symm.trans h
          refine lv_aload_n hx hb dX8_step_45 rfl (lv_at hl 0 rfl) ?_
          obtain ⟨v8, ev8, h⟩ := zb_some h
          refine z_getr X flX8_26 hH ev8 dX8_step_46 ?_
          refine lv_aload_n hx hb dX8_step_49 rfl (lv_at hl 0 rfl) ?_
          obtain ⟨v9, ev9, h⟩ := zb_some h
          refine z_geti X flX8_113 hH ev9 dX8_step_50 ?_
          refine lv_iload_n hx hb dX8_step_53 rfl (lv_at hl 1 rfl) ?_
          obtain ⟨S10, eS10, h⟩ := zb_some h
          refine z_iast X hH hS eS10 dX8_step_54 (fun H locs hH hS => ?_)
          refine lv_aload_n hx hb dX8_step_55 rfl (lv_at hl 0 rfl) ?_
          obtain ⟨v11, ev11, h⟩ := zb_some h
          refine z_getr X flX8_29 hH ev11 dX8_step_56 ?_
          refine lv_aload_n hx hb dX8_step_59 rfl (lv_at hl 0 rfl) ?_
          obtain ⟨v12, ev12, h⟩ := zb_some h
          refine z_geti X flX8_113 hH ev12 dX8_step_60 ?_
          refine lv_iload_n hx hb dX8_step_63 rfl (lv_at hl 2 rfl) ?_
          obtain ⟨S13, eS13, h⟩ := zb_some h
          refine z_iast X hH hS eS13 dX8_step_64 (fun H locs hH hS => ?_)
          refine lv_aload_n hx hb dX8_step_65 rfl (lv_at hl 0 rfl) ?_
          obtain ⟨v14, ev14, h⟩ := zb_some h
          refine z_getr X flX8_32 hH ev14 dX8_step_66 ?_
          refine lv_aload_n hx hb dX8_step_69 rfl (lv_at hl 0 rfl) ?_
          obtain ⟨v15, ev15, h⟩ := zb_some h
          refine z_geti X flX8_113 hH ev15 dX8_step_70 ?_
          refine lv_iload_n hx hb dX8_step_73 rfl (lv_at hl 3 rfl) ?_
          obtain ⟨S16, eS16, h⟩ := zb_some h
          refine z_iast X hH hS eS16 dX8_step_74 (fun H locs hH hS => ?_)
          refine lv_aload_n hx hb dX8_step_75 rfl (lv_at hl 0 rfl) ?_
          obtain ⟨v17, ev17, h⟩ := zb_some h
          refine z_getr X flX8_35 hH ev17 dX8_step_76 ?_
          refine lv_aload_n hx hb dX8_step_79 rfl (lv_at hl 0 rfl) ?_
          obtain ⟨v18, ev18, h⟩ := zb_some h
          refine z_geti X flX8_113 hH ev18 dX8_step_80 ?_
          refine lv_iconst (v := (0 : Int32)) hx hb dX8_step_83 (by decide) ?_
          obtain ⟨S19, eS19, h⟩ := zb_some h
          refine z_iast X hH hS eS19 dX8_step_84 (fun H locs hH hS => ?_)
          refine lv_aload_n hx hb dX8_step_85 rfl (lv_at hl 0 rfl) ?_
          refine lv_dup hx hb dX8_step_86 rfl ?_
          obtain ⟨v20, ev20, h⟩ := zb_some h
          refine z_geti X flX8_113 hH ev20 dX8_step_87 ?_
          refine lv_iconst (v := (1 : Int32)) hx hb dX8_step_90 (by decide) ?_
          refine lv_iadd hx hb dX8_step_91 ?_
          obtain ⟨S21, eS21, h⟩ := zb_some h
          refine z_puti X flX8_113 fpX8_8 hH hS eS21 dX8_step_92 (fun H locs hH hS => ?_)
          refine lv_aload_n hx hb dX8_step_95 rfl (lv_at hl 0 rfl) ?_
          obtain ⟨v22, ev22, h⟩ := zb_some h
          refine z_geti X flX8_113 hH ev22 dX8_step_96 ?_
          refine lv_iconst (v := (1 : Int32)) hx hb dX8_step_99 (by decide) ?_
          refine lv_isub hx hb dX8_step_100 ?_
          exact z_iret X hH hS h dX8_step_101
        · have h := (if_pos c).symm.trans h
          refine lv_bipush (v := (-3 : Int32)) hx hb dX8_step_42 (by decide) ?_
          exact z_iret X hH hS h dX8_step_44
      · have h := (if_pos c).symm.trans h
        exact wX8_step_31 X h _ _ _ hH hS (lv_sub hl [] rfl)
set_option maxRecDepth 100000 in
theorem kX8_step {N : Nat} {r : Int32} {T : zS} {S : zS} {z : Nat} {x0 : Nat} {x1 : Int32} {x2 : Int32} {x3 : Int32} (h : fX8_step N S x0 x1 x2 x3 = some (r, T)) : Met l yX8_step [.code yX8_step cX8_step 4 (some .int)] { frames := 1, cells := 0, slots := 0, locals := 22 } (zP D cy A S z [.ref x0, .int x1, .int x2, .int x3]) (zQ D cy A T z (some (.int r))) 0 0 A := by
  refine z_met (lv := [(0, .ref x0), (1, .int x1), (2, .int x2), (3, .int x3)]) (by decide) (Nat.le_of_ble_eq_true rfl) rfl ?_
  intro p e s m below meth c X H locs ls hH hS hl
  exact wX8_step_0 X h _ _ _ hH hS (lv_sub hl [0, 1, 2, 3] rfl)
set_option maxRecDepth 100000 in
set_option maxHeartbeats 4000000 in
theorem wX8_need_46 {z : Nat} {N : Nat} {r : Int32} {T : zS} (X : zX D cy p s m meth c cX8_need 5 RX8 (some .int)) {K35 : zS × Nat × Int32 × Int32 × Int32 → Option (Int32 × zS)} (hK35 : ∀ (S : zS) (x0 : Nat) (x1 : Int32) (x2 : Int32) (x3 : Int32), K35 (S, x0, x1, x2, x3) = some (r, T) → zWt D cy A p l e { frames := 2, cells := 0, slots := 0, locals := 43 } s m args below meth c z 0 0 0 0 (zQ D cy A T z (some (.int r))) S 5 35 [(0, .ref x0), (1, .int x1), (2, .int x2), (3, .int x3)] []) {K46 : zS × Nat × Int32 × Int32 × Int32 × Int32 → Option (Int32 × zS)} (hK46 : ∀ (S : zS) (x0 : Nat) (x1 : Int32) (x2 : Int32) (x3 : Int32) (x4 : Int32), K46 (S, x0, x1, x2, x3, x4) = some (r, T) → zWt D cy A p l e { frames := 2, cells := 0, slots := 0, locals := 43 } s m args below meth c z 0 0 0 0 (zQ D cy A T z (some (.int r))) S 5 46 [(0, .ref x0), (1, .int x1), (2, .int x2), (3, .int x3), (4, .int x4)] []) {S : zS} {x0 : Nat} {x1 : Int32} {x2 : Int32} {x3 : Int32} {x4 : Int32} (h : fX8_need_46 N K35 K46 S x0 x1 x2 x3 x4 = some (r, T)) : zWt D cy A p l e { frames := 2, cells := 0, slots := 0, locals := 43 } s m args below meth c z 0 0 0 0 (zQ D cy A T z (some (.int r))) S 5 46 [(0, .ref x0), (1, .int x1), (2, .int x2), (3, .int x3), (4, .int x4)] [] := by
  obtain ⟨hx, hb, hml, hown, hr, hlocks, hT⟩ := id X
  intro H locs ls hH hS hl
  unfold fX8_need_46 at h
  refine lv_iload hx hb dX8_need_46 (lv_at hl 4 rfl) ?_
  refine lv_aload_n hx hb dX8_need_48 rfl (lv_at hl 0 rfl) ?_
  obtain ⟨v1, ev1, h⟩ := zb_some h
  refine z_getr X flX8_35 hH ev1 dX8_need_49 ?_
  refine lv_iload_n hx hb dX8_need_52 rfl (lv_at hl 3 rfl) ?_
  obtain ⟨v2, ev2, h⟩ := zb_some h
  refine z_iald X hH ev2 dX8_need_53 ?_
  refine lv_icmp_ge (tgt := 84) hx hb dX8_need_54 (by decide) (fun c => ?_) (fun c => ?_)
  · have h := (if_pos c).symm.trans h
    refine lv_iinc (v := (x3 + (1 : Int32))) (lv' := [(3, .int (x3 + (1 : Int32))), (0, .ref x0), (1, .int x1), (2, .int x2), (4, .int x4)]) hx hb dX8_need_84 hl (k := 3) rfl (z_ii (by decide) _) (by decide) rfl (fun ls hl => ?_)
    refine lv_goto (tgt := 35) hx hb dX8_need_87 (by decide) ?_
    exact hK35 _ _ _ _ _ h _ _ _ hH hS (lv_sub hl [1, 2, 3, 0] rfl)
  · have h := (if_neg c).symm.trans h
    refine lv_aload_n hx hb dX8_need_57 rfl (lv_at hl 0 rfl) ?_
    obtain ⟨v3, ev3, h⟩ := zb_some h
    refine z_getr X flX8_38 hH ev3 dX8_need_58 ?_
    refine lv_iconst (v := (4 : Int32)) hx hb dX8_need_61 (by decide) ?_
    refine lv_iload_n hx hb dX8_need_62 rfl (lv_at hl 3 rfl) ?_
    refine lv_imul hx hb dX8_need_63 ?_
    refine lv_iload hx hb dX8_need_64 (lv_at hl 4 rfl) ?_
    refine lv_iadd hx hb dX8_need_66 ?_
    obtain ⟨v4, ev4, h⟩ := zb_some h
    refine z_iald X hH ev4 dX8_need_67 ?_
    refine lv_bipush (v := (100 : Int32)) hx hb dX8_need_68 (by decide) ?_
    refine lv_iload_n hx hb dX8_need_70 rfl (lv_at hl 1 rfl) ?_
    refine lv_iadd hx hb dX8_need_71 ?_
    refine lv_icmp_ne (tgt := 78) hx hb dX8_need_72 (by decide) (fun c => ?_) (fun c => ?_)
    · have h := (if_neg c).symm.trans h
      refine lv_iinc (v := (x4 + (1 : Int32))) (lv' := [(4, .int (x4 + (1 : Int32))), (0, .ref x0), (1, .int x1), (2, .int x2), (3, .int x3)]) hx hb dX8_need_78 hl (k := 4) rfl (z_ii (by decide) _) (by decide) rfl (fun ls hl => ?_)
      refine lv_goto (tgt := 46) hx hb dX8_need_81 (by decide) ?_
      exact hK46 _ _ _ _ _ _ h _ _ _ hH hS (lv_sub hl [1, 2, 3, 4, 0] rfl)
    · have h := (if_pos c).symm.trans h
      refine lv_bipush (v := (-2 : Int32)) hx hb dX8_need_75 (by decide) ?_
      exact z_iret X hH hS h dX8_need_77
set_option maxRecDepth 100000 in
set_option maxHeartbeats 4000000 in
theorem uX8_need_46 {z : Nat} {N : Nat} {r : Int32} {T : zS} (X : zX D cy p s m meth c cX8_need 5 RX8 (some .int)) {K35 : zS × Nat × Int32 × Int32 × Int32 → Option (Int32 × zS)} (hK35 : ∀ (S : zS) (x0 : Nat) (x1 : Int32) (x2 : Int32) (x3 : Int32), K35 (S, x0, x1, x2, x3) = some (r, T) → zWt D cy A p l e { frames := 2, cells := 0, slots := 0, locals := 43 } s m args below meth c z 0 0 0 0 (zQ D cy A T z (some (.int r))) S 5 35 [(0, .ref x0), (1, .int x1), (2, .int x2), (3, .int x3)] []) {S : zS} {x0 : Nat} {x1 : Int32} {x2 : Int32} {x3 : Int32} {x4 : Int32} (h : lX8_need_46 N K35 S x0 x1 x2 x3 x4 = some (r, T)) : zWt D cy A p l e { frames := 2, cells := 0, slots := 0, locals := 43 } s m args below meth c z 0 0 0 0 (zQ D cy A T z (some (.int r))) S 5 46 [(0, .ref x0), (1, .int x1), (2, .int x2), (3, .int x3), (4, .int x4)] [] := by
  unfold lX8_need_46 at h
  refine zloop_ind (P := fun y => zWt D cy A p l e { frames := 2, cells := 0, slots := 0, locals := 43 } s m args below meth c z 0 0 0 0 (zQ D cy A T z (some (.int r))) y.1 5 46 [(0, .ref y.2.1), (1, .int y.2.2.1), (2, .int y.2.2.2.1), (3, .int y.2.2.2.2.1), (4, .int y.2.2.2.2.2)] []) ?_ N (S, x0, x1, x2, x3, x4) h
  intro K hK y hy
  obtain ⟨S, x0, x1, x2, x3, x4⟩ := y
  exact wX8_need_46 X hK35 (fun S x0 x1 x2 x3 x4 hq => hK (S, x0, x1, x2, x3, x4) hq) hy
set_option maxRecDepth 100000 in
set_option maxHeartbeats 4000000 in
theorem wX8_need_35 {z : Nat} {N : Nat} {r : Int32} {T : zS} (X : zX D cy p s m meth c cX8_need 5 RX8 (some .int)) {K35 : zS × Nat × Int32 × Int32 × Int32 → Option (Int32 × zS)} (hK35 : ∀ (S : zS) (x0 : Nat) (x1 : Int32) (x2 : Int32) (x3 : Int32), K35 (S, x0, x1, x2, x3) = some (r, T) → zWt D cy A p l e { frames := 2, cells := 0, slots := 0, locals := 43 } s m args below meth c z 0 0 0 0 (zQ D cy A T z (some (.int r))) S 5 35 [(0, .ref x0), (1, .int x1), (2, .int x2), (3, .int x3)] []) {S : zS} {x0 : Nat} {x1 : Int32} {x2 : Int32} {x3 : Int32} (h : fX8_need_35 N K35 S x0 x1 x2 x3 = some (r, T)) : zWt D cy A p l e { frames := 2, cells := 0, slots := 0, locals := 43 } s m args below meth c z 0 0 0 0 (zQ D cy A T z (some (.int r))) S 5 35 [(0, .ref x0), (1, .int x1), (2, .int x2), (3, .int x3)] [] := by
  obtain ⟨hx, hb, hml, hown, hr, hlocks, hT⟩ := id X
  intro H locs ls hH hS hl
  unfold fX8_need_35 at h
  refine lv_iload_n hx hb dX8_need_35 rfl (lv_at hl 3 rfl) ?_
  refine lv_aload_n hx hb dX8_need_36 rfl (lv_at hl 0 rfl) ?_
  obtain ⟨v5, ev5, h⟩ := zb_some h
  refine z_geti X flX8_113 hH ev5 dX8_need_37 ?_
  refine lv_icmp_ge (tgt := 90) hx hb dX8_need_40 (by decide) (fun c => ?_) (fun c => ?_)
  · have h := (if_pos c).symm.trans h
    refine lv_aload_n hx hb dX8_need_90 rfl (lv_at hl 0 rfl) ?_
    obtain ⟨v6, ev6, h⟩ := zb_some h
    refine z_getr X flX8_35 hH ev6 dX8_need_91 ?_
    refine lv_iload_n hx hb dX8_need_94 rfl (lv_at hl 1 rfl) ?_
    obtain ⟨v7, ev7, h⟩ := zb_some h
    refine z_iald X hH ev7 dX8_need_95 ?_
    refine lv_iconst (v := (4 : Int32)) hx hb dX8_need_96 (by decide) ?_
    refine lv_icmp_ne (tgt := 103) hx hb dX8_need_97 (by decide) (fun c => ?_) (fun c => ?_)
    · have h := (if_neg c).symm.trans h
      refine lv_aload_n hx hb dX8_need_103 rfl (lv_at hl 0 rfl) ?_
      obtain ⟨v8, ev8, h⟩ := zb_some h
      refine z_getr X flX8_38 hH ev8 dX8_need_104 ?_
      refine lv_iconst (v := (4 : Int32)) hx hb dX8_need_107 (by decide) ?_
      refine lv_iload_n hx hb dX8_need_108 rfl (lv_at hl 1 rfl) ?_
      refine lv_imul hx hb dX8_need_109 ?_
      refine lv_aload_n hx hb dX8_need_110 rfl (lv_at hl 0 rfl) ?_
      obtain ⟨v9, ev9, h⟩ := zb_some h
      refine z_getr X flX8_35 hH ev9 dX8_need_111 ?_
      refine lv_iload_n hx hb dX8_need_114 rfl (lv_at hl 1 rfl) ?_
      obtain ⟨v10, ev10, h⟩ := zb_some h
      refine z_iald X hH ev10 dX8_need_115 ?_
      refine lv_iadd hx hb dX8_need_116 ?_
      refine lv_iload_n hx hb dX8_need_117 rfl (lv_at hl 2 rfl) ?_
      obtain ⟨S11, eS11, h⟩ := zb_some h
      refine z_iast X hH hS eS11 dX8_need_118 (fun H locs hH hS => ?_)
      refine lv_aload_n hx hb dX8_need_119 rfl (lv_at hl 0 rfl) ?_
      obtain ⟨v12, ev12, h⟩ := zb_some h
      refine z_getr X flX8_35 hH ev12 dX8_need_120 ?_
      refine lv_iload_n hx hb dX8_need_123 rfl (lv_at hl 1 rfl) ?_
      refine lv_dup2_11 hx hb dX8_need_124 rfl rfl ?_
      obtain ⟨v13, ev13, h⟩ := zb_some h
      refine z_iald X hH ev13 dX8_need_125 ?_
      refine lv_iconst (v := (1 : Int32)) hx hb dX8_need_126 (by decide) ?_
      refine lv_iadd hx hb dX8_need_127 ?_
      obtain ⟨S14, eS14, h⟩ := zb_some h
      refine z_iast X hH hS eS14 dX8_need_128 (fun H locs hH hS => ?_)
      refine lv_aload_n hx hb dX8_need_129 rfl (lv_at hl 0 rfl) ?_
      obtain ⟨v15, ev15, h⟩ := zb_some h
      refine z_getr X flX8_35 hH ev15 dX8_need_130 ?_
      refine lv_iload_n hx hb dX8_need_133 rfl (lv_at hl 1 rfl) ?_
      obtain ⟨v16, ev16, h⟩ := zb_some h
      refine z_iald X hH ev16 dX8_need_134 ?_
      exact z_iret X hH hS h dX8_need_135
    · have h := (if_pos c).symm.trans h
      refine lv_bipush (v := (-3 : Int32)) hx hb dX8_need_100 (by decide) ?_
      exact z_iret X hH hS h dX8_need_102
  · have h := (if_neg c).symm.trans h
    refine lv_iconst (v := (0 : Int32)) hx hb dX8_need_43 (by decide) ?_
    refine lv_istore (lv' := [(4, .int (0 : Int32)), (0, .ref x0), (1, .int x1), (2, .int x2), (3, .int x3)]) hx hb dX8_need_44 hl (by decide) rfl (fun ls hl => ?_)
    exact uX8_need_46 X hK35 h _ _ _ hH hS (lv_sub hl [1, 2, 3, 4, 0] rfl)
set_option maxRecDepth 100000 in
set_option maxHeartbeats 4000000 in
theorem uX8_need_35 {z : Nat} {N : Nat} {r : Int32} {T : zS} (X : zX D cy p s m meth c cX8_need 5 RX8 (some .int))  {S : zS} {x0 : Nat} {x1 : Int32} {x2 : Int32} {x3 : Int32} (h : lX8_need_35 N S x0 x1 x2 x3 = some (r, T)) : zWt D cy A p l e { frames := 2, cells := 0, slots := 0, locals := 43 } s m args below meth c z 0 0 0 0 (zQ D cy A T z (some (.int r))) S 5 35 [(0, .ref x0), (1, .int x1), (2, .int x2), (3, .int x3)] [] := by
  unfold lX8_need_35 at h
  refine zloop_ind (P := fun y => zWt D cy A p l e { frames := 2, cells := 0, slots := 0, locals := 43 } s m args below meth c z 0 0 0 0 (zQ D cy A T z (some (.int r))) y.1 5 35 [(0, .ref y.2.1), (1, .int y.2.2.1), (2, .int y.2.2.2.1), (3, .int y.2.2.2.2)] []) ?_ N (S, x0, x1, x2, x3) h
  intro K hK y hy
  obtain ⟨S, x0, x1, x2, x3⟩ := y
  exact wX8_need_35 X (fun S x0 x1 x2 x3 hq => hK (S, x0, x1, x2, x3) hq) hy
set_option maxRecDepth 100000 in
set_option maxHeartbeats 4000000 in
theorem wX8_need_31 {z : Nat} {N : Nat} {r : Int32} {T : zS} (X : zX D cy p s m meth c cX8_need 5 RX8 (some .int))  {S : zS} {x0 : Nat} {x1 : Int32} {x2 : Int32} (h : fX8_need_31 N S x0 x1 x2 = some (r, T)) : zWt D cy A p l e { frames := 2, cells := 0, slots := 0, locals := 43 } s m args below meth c z 0 0 0 0 (zQ D cy A T z (some (.int r))) S 5 31 [(0, .ref x0), (1, .int x1), (2, .int x2)] [] := by
  obtain ⟨hx, hb, hml, hown, hr, hlocks, hT⟩ := id X
  intro H locs ls hH hS hl
  unfold fX8_need_31 at h
  refine lv_iload_n hx hb dX8_need_31 rfl (lv_at hl 1 rfl) ?_
  refine lv_iconst (v := (1 : Int32)) hx hb dX8_need_32 (by decide) ?_
  refine lv_iadd hx hb dX8_need_33 ?_
  refine lv_istore_n (lv' := [(3, .int (x1 + (1 : Int32))), (0, .ref x0), (1, .int x1), (2, .int x2)]) hx hb dX8_need_34 rfl hl (by decide) rfl (fun ls hl => ?_)
  exact uX8_need_35 X h _ _ _ hH hS (lv_sub hl [1, 2, 3, 0] rfl)
set_option maxRecDepth 100000 in
set_option maxHeartbeats 4000000 in
theorem wX8_need_29 {z : Nat} {N : Nat} {r : Int32} {T : zS} (X : zX D cy p s m meth c cX8_need 5 RX8 (some .int))  {S : zS} (h : fX8_need_29 N S = some (r, T)) : zWt D cy A p l e { frames := 2, cells := 0, slots := 0, locals := 43 } s m args below meth c z 0 0 0 0 (zQ D cy A T z (some (.int r))) S 5 29 [] [] := by
  obtain ⟨hx, hb, hml, hown, hr, hlocks, hT⟩ := id X
  intro H locs ls hH hS hl
  unfold fX8_need_29 at h
  refine lv_iconst (v := (-1 : Int32)) hx hb dX8_need_29 (by decide) ?_
  exact z_iret X hH hS h dX8_need_30
set_option maxRecDepth 100000 in
set_option maxHeartbeats 4000000 in
theorem wX8_need_0 {z : Nat} {N : Nat} {r : Int32} {T : zS} (X : zX D cy p s m meth c cX8_need 5 RX8 (some .int))  {S : zS} {x0 : Nat} {x1 : Int32} {x2 : Int32} (h : fX8_need_0 N S x0 x1 x2 = some (r, T)) : zWt D cy A p l e { frames := 2, cells := 0, slots := 0, locals := 43 } s m args below meth c z 0 0 0 0 (zQ D cy A T z (some (.int r))) S 5 0 [(0, .ref x0), (1, .int x1), (2, .int x2)] [] := by
  obtain ⟨hx, hb, hml, hown, hr, hlocks, hT⟩ := id X
  intro H locs ls hH hS hl
  unfold fX8_need_0 at h
  refine lv_aload_n hx hb dX8_need_0 rfl (lv_at hl 0 rfl) ?_
  refine lv_iload_n hx hb dX8_need_1 rfl (lv_at hl 1 rfl) ?_
  obtain ⟨u17, eu17, h⟩ := zb_some h
  obtain ⟨v19, S18, eS18, h⟩ := zb2_some h
  refine z_cV (As := [.int x1]) X hl hH hS mlX8_126 eu17 (kX8_isStep eS18) rfl rfl (Nat.le_of_ble_eq_true rfl) ⟨rfl, rfl, Nat.le_of_ble_eq_true rfl, Nat.le_of_ble_eq_true rfl⟩ ⟨Nat.le_refl _, Nat.le_refl _⟩ dX8_need_2 (fun H locs hH hS => ?_)
  refine lv_if_eq (tgt := 29) hx hb dX8_need_5 (by decide) (fun c => ?_) (fun c => ?_)
  · have h := (if_pos c).symm.trans h
    exact wX8_need_29 X h _ _ _ hH hS (lv_sub hl [] rfl)
  · have h := (if_neg c).symm.trans h
    refine lv_aload_n hx hb dX8_need_8 rfl (lv_at hl 0 rfl) ?_
    refine lv_iload_n hx hb dX8_need_9 rfl (lv_at hl 2 rfl) ?_
    obtain ⟨u20, eu20, h⟩ := zb_some h
    obtain ⟨v22, S21, eS21, h⟩ := zb2_some h
    refine z_cV (As := [.int x2]) X hl hH hS mlX8_116 eu20 (kX8_isText eS21) rfl rfl (Nat.le_of_ble_eq_true rfl) ⟨rfl, rfl, Nat.le_of_ble_eq_true rfl, Nat.le_of_ble_eq_true rfl⟩ ⟨Nat.le_refl _, Nat.le_refl _⟩ dX8_need_10 (fun H locs hH hS => ?_)
    refine lv_if_ne (tgt := 31) hx hb dX8_need_13 (by decide) (fun c => ?_) (fun c => ?_)
    · have h := (if_neg c).symm.trans h
      exact wX8_need_31 X h _ _ _ hH hS (lv_sub hl [0, 1, 2] rfl)
    · have h := (if_pos c).symm.trans h
      refine lv_iload_n hx hb dX8_need_16 rfl (lv_at hl 2 rfl) ?_
      refine lv_bipush (v := (100 : Int32)) hx hb dX8_need_17 (by decide) ?_
      refine lv_bipush (v := (99 : Int32)) hx hb dX8_need_19 (by decide) ?_
      refine lv_iload_n hx hb dX8_need_21 rfl (lv_at hl 1 rfl) ?_
      refine lv_iadd hx hb dX8_need_22 ?_
      obtain ⟨v24, S23, eS23, h⟩ := zb2_some h
      refine z_cS (As := [.int x2, .int (100 : Int32), .int ((99 : Int32) + x1)]) X hl hH hS mlX8_99 (kX8_in eS23) rfl rfl (Nat.le_of_ble_eq_true rfl) ⟨rfl, rfl, Nat.le_of_ble_eq_true rfl, Nat.le_of_ble_eq_true rfl⟩ ⟨Nat.le_refl _, Nat.le_refl _⟩ dX8_need_23 (fun H locs hH hS => ?_)
      refine lv_if_ne (tgt := 31) hx hb dX8_need_26 (by decide) (fun c => ?_) (fun c => ?_)
      · have h := (if_neg c).symm.trans h
        exact wX8_need_31 X h _ _ _ hH hS (lv_sub hl [0, 1, 2] rfl)
      · have h := (if_pos c).symm.trans h
        exact wX8_need_29 X h _ _ _ hH hS (lv_sub hl [] rfl)
set_option maxRecDepth 100000 in
theorem kX8_need {N : Nat} {r : Int32} {T : zS} {S : zS} {z : Nat} {x0 : Nat} {x1 : Int32} {x2 : Int32} (h : fX8_need N S x0 x1 x2 = some (r, T)) : Met l yX8_need [.code yX8_need cX8_need 5 (some .int)] { frames := 2, cells := 0, slots := 0, locals := 43 } (zP D cy A S z [.ref x0, .int x1, .int x2]) (zQ D cy A T z (some (.int r))) 0 0 A := by
  refine z_met (lv := [(0, .ref x0), (1, .int x1), (2, .int x2)]) (by decide) (Nat.le_of_ble_eq_true rfl) rfl ?_
  intro p e s m below meth c X H locs ls hH hS hl
  exact wX8_need_0 X h _ _ _ hH hS (lv_sub hl [0, 1, 2] rfl)
set_option maxRecDepth 100000 in
set_option maxHeartbeats 4000000 in
theorem wX8_take_2 {z : Nat} {N : Nat} {T : zS} (X : zX D cy p s m meth c cX8_take 3 RX8 none) {K2 : zS × Nat × Int32 × Int32 → Option (zS)} (hK2 : ∀ (S : zS) (x0 : Nat) (x1 : Int32) (x2 : Int32), K2 (S, x0, x1, x2) = some T → zWt D cy A p l e { frames := 0, cells := 0, slots := 0, locals := 0 } s m args below meth c z 0 0 0 0 (zQ D cy A T z none) S 3 2 [(0, .ref x0), (1, .int x1), (2, .int x2)] []) {S : zS} {x0 : Nat} {x1 : Int32} {x2 : Int32} (h : fX8_take_2 N K2 S x0 x1 x2 = some T) : zWt D cy A p l e { frames := 0, cells := 0, slots := 0, locals := 0 } s m args below meth c z 0 0 0 0 (zQ D cy A T z none) S 3 2 [(0, .ref x0), (1, .int x1), (2, .int x2)] [] := by
  obtain ⟨hx, hb, hml, hown, hr, hlocks, hT⟩ := id X
  intro H locs ls hH hS hl
  unfold fX8_take_2 at h
  refine lv_iload_n hx hb dX8_take_2 rfl (lv_at hl 2 rfl) ?_
  refine lv_bipush (v := (8 : Int32)) hx hb dX8_take_3 (by decide) ?_
  refine lv_icmp_ge (tgt := 31) hx hb dX8_take_5 (by decide) (fun c => ?_) (fun c => ?_)
  · have h := (if_pos c).symm.trans h
    exact z_vret X hH hS h dX8_take_31
  · have h := (if_neg c).symm.trans h
    refine lv_aload_n hx hb dX8_take_8 rfl (lv_at hl 0 rfl) ?_
    obtain ⟨v1, ev1, h⟩ := zb_some h
    refine z_getr X flX8_41 hH ev1 dX8_take_9 ?_
    refine lv_iload_n hx hb dX8_take_12 rfl (lv_at hl 2 rfl) ?_
    refine lv_aload_n hx hb dX8_take_13 rfl (lv_at hl 0 rfl) ?_
    obtain ⟨v2, ev2, h⟩ := zb_some h
    refine z_getr X flX8_23 hH ev2 dX8_take_14 ?_
    refine lv_bipush (v := (8 : Int32)) hx hb dX8_take_17 (by decide) ?_
    refine lv_iload_n hx hb dX8_take_19 rfl (lv_at hl 1 rfl) ?_
    refine lv_imul hx hb dX8_take_20 ?_
    refine lv_iload_n hx hb dX8_take_21 rfl (lv_at hl 2 rfl) ?_
    refine lv_iadd hx hb dX8_take_22 ?_
    obtain ⟨v3, ev3, h⟩ := zb_some h
    refine z_iald X hH ev3 dX8_take_23 ?_
    obtain ⟨S4, eS4, h⟩ := zb_some h
    refine z_iast X hH hS eS4 dX8_take_24 (fun H locs hH hS => ?_)
    refine lv_iinc (v := (x2 + (1 : Int32))) (lv' := [(2, .int (x2 + (1 : Int32))), (0, .ref x0), (1, .int x1)]) hx hb dX8_take_25 hl (k := 2) rfl (z_ii (by decide) _) (by decide) rfl (fun ls hl => ?_)
    refine lv_goto (tgt := 2) hx hb dX8_take_28 (by decide) ?_
    exact hK2 _ _ _ _ h _ _ _ hH hS (lv_sub hl [1, 2, 0] rfl)
set_option maxRecDepth 100000 in
set_option maxHeartbeats 4000000 in
theorem uX8_take_2 {z : Nat} {N : Nat} {T : zS} (X : zX D cy p s m meth c cX8_take 3 RX8 none)  {S : zS} {x0 : Nat} {x1 : Int32} {x2 : Int32} (h : lX8_take_2 N S x0 x1 x2 = some T) : zWt D cy A p l e { frames := 0, cells := 0, slots := 0, locals := 0 } s m args below meth c z 0 0 0 0 (zQ D cy A T z none) S 3 2 [(0, .ref x0), (1, .int x1), (2, .int x2)] [] := by
  unfold lX8_take_2 at h
  refine zloop_ind (P := fun y => zWt D cy A p l e { frames := 0, cells := 0, slots := 0, locals := 0 } s m args below meth c z 0 0 0 0 (zQ D cy A T z none) y.1 3 2 [(0, .ref y.2.1), (1, .int y.2.2.1), (2, .int y.2.2.2)] []) ?_ N (S, x0, x1, x2) h
  intro K hK y hy
  obtain ⟨S, x0, x1, x2⟩ := y
  exact wX8_take_2 X (fun S x0 x1 x2 hq => hK (S, x0, x1, x2) hq) hy
set_option maxRecDepth 100000 in
set_option maxHeartbeats 4000000 in
theorem wX8_take_0 {z : Nat} {N : Nat} {T : zS} (X : zX D cy p s m meth c cX8_take 3 RX8 none)  {S : zS} {x0 : Nat} {x1 : Int32} (h : fX8_take_0 N S x0 x1 = some T) : zWt D cy A p l e { frames := 0, cells := 0, slots := 0, locals := 0 } s m args below meth c z 0 0 0 0 (zQ D cy A T z none) S 3 0 [(0, .ref x0), (1, .int x1)] [] := by
  obtain ⟨hx, hb, hml, hown, hr, hlocks, hT⟩ := id X
  intro H locs ls hH hS hl
  unfold fX8_take_0 at h
  refine lv_iconst (v := (0 : Int32)) hx hb dX8_take_0 (by decide) ?_
  refine lv_istore_n (lv' := [(2, .int (0 : Int32)), (0, .ref x0), (1, .int x1)]) hx hb dX8_take_1 rfl hl (by decide) rfl (fun ls hl => ?_)
  exact uX8_take_2 X h _ _ _ hH hS (lv_sub hl [1, 2, 0] rfl)
set_option maxRecDepth 100000 in
theorem kX8_take {N : Nat} {T : zS} {S : zS} {z : Nat} {x0 : Nat} {x1 : Int32} (h : fX8_take N S x0 x1 = some T) : Met l yX8_take [.code yX8_take cX8_take 3 none] { frames := 0, cells := 0, slots := 0, locals := 0 } (zP D cy A S z [.ref x0, .int x1]) (zQ D cy A T z none) 0 0 A := by
  refine z_met (lv := [(0, .ref x0), (1, .int x1)]) (by decide) (Nat.le_of_ble_eq_true rfl) rfl ?_
  intro p e s m below meth c X H locs ls hH hS hl
  exact wX8_take_0 X h _ _ _ hH hS (lv_sub hl [0, 1] rfl)
set_option maxRecDepth 100000 in
set_option maxHeartbeats 4000000 in
theorem wX8_sizeOf_42 {z : Nat} {N : Nat} {r : Int32} {T : zS} (X : zX D cy p s m meth c cX8_sizeOf 3 RX8 (some .int))  {S : zS} {y0 : Int32} (h : fX8_sizeOf_42 N S y0 = some (r, T)) : zWt D cy A p l e { frames := 0, cells := 0, slots := 0, locals := 0 } s m args below meth c z 0 0 0 0 (zQ D cy A T z (some (.int r))) S 3 42 [] [.int y0] := by
  obtain ⟨hx, hb, hml, hown, hr, hlocks, hT⟩ := id X
  intro H locs ls hH hS hl
  unfold fX8_sizeOf_42 at h
  exact z_iret X hH hS h dX8_sizeOf_42
set_option maxRecDepth 100000 in
set_option maxHeartbeats 4000000 in
theorem wX8_sizeOf_0 {z : Nat} {N : Nat} {r : Int32} {T : zS} (X : zX D cy p s m meth c cX8_sizeOf 3 RX8 (some .int))  {S : zS} {x0 : Nat} {x1 : Int32} {x2 : Int32} (h : fX8_sizeOf_0 N S x0 x1 x2 = some (r, T)) : zWt D cy A p l e { frames := 0, cells := 0, slots := 0, locals := 0 } s m args below meth c z 0 0 0 0 (zQ D cy A T z (some (.int r))) S 3 0 [(0, .ref x0), (1, .int x1), (2, .int x2)] [] := by
  obtain ⟨hx, hb, hml, hown, hr, hlocks, hT⟩ := id X
  intro H locs ls hH hS hl
  unfold fX8_sizeOf_0 at h
  refine lv_iload_n hx hb dX8_sizeOf_0 rfl (lv_at hl 2 rfl) ?_
  refine lv_bipush (v := (100 : Int32)) hx hb dX8_sizeOf_1 (by decide) ?_
  refine lv_icmp_lt (tgt := 23) hx hb dX8_sizeOf_3 (by decide) (fun c => ?_) (fun c => ?_)
  · have h := (if_pos c).symm.trans h
    refine lv_aload_n hx hb dX8_sizeOf_23 rfl (lv_at hl 0 rfl) ?_
    obtain ⟨v1, ev1, h⟩ := zb_some h
    refine z_getr X flX8_19 hH ev1 dX8_sizeOf_24 ?_
    refine lv_iload_n hx hb dX8_sizeOf_27 rfl (lv_at hl 2 rfl) ?_
    obtain ⟨v2, ev2, h⟩ := zb_some h
    refine z_zald X hH ev2 dX8_sizeOf_28 ?_
    refine lv_if_eq (tgt := 36) hx hb dX8_sizeOf_29 (by decide) (fun c => ?_) (fun c => ?_)
    · have h := (if_pos c).symm.trans h
      refine lv_aload_n hx hb dX8_sizeOf_36 rfl (lv_at hl 0 rfl) ?_
      obtain ⟨v3, ev3, h⟩ := zb_some h
      refine z_getr X flX8_13 hH ev3 dX8_sizeOf_37 ?_
      refine lv_iload_n hx hb dX8_sizeOf_40 rfl (lv_at hl 2 rfl) ?_
      obtain ⟨v4, ev4, h⟩ := zb_some h
      refine z_iald X hH ev4 dX8_sizeOf_41 ?_
      exact wX8_sizeOf_42 X h _ _ _ hH hS (lv_sub hl [] rfl)
    · have h := (if_neg c).symm.trans h
      refine lv_iconst (v := (-1 : Int32)) hx hb dX8_sizeOf_32 (by decide) ?_
      refine lv_goto (tgt := 42) hx hb dX8_sizeOf_33 (by decide) ?_
      exact wX8_sizeOf_42 X h _ _ _ hH hS (lv_sub hl [] rfl)
  · have h := (if_neg c).symm.trans h
    refine lv_aload_n hx hb dX8_sizeOf_6 rfl (lv_at hl 0 rfl) ?_
    obtain ⟨v5, ev5, h⟩ := zb_some h
    refine z_getr X flX8_44 hH ev5 dX8_sizeOf_7 ?_
    refine lv_bipush (v := (24 : Int32)) hx hb dX8_sizeOf_10 (by decide) ?_
    refine lv_iload_n hx hb dX8_sizeOf_12 rfl (lv_at hl 1 rfl) ?_
    refine lv_imul hx hb dX8_sizeOf_13 ?_
    refine lv_iload_n hx hb dX8_sizeOf_14 rfl (lv_at hl 2 rfl) ?_
    refine lv_iadd hx hb dX8_sizeOf_15 ?_
    refine lv_bipush (v := (100 : Int32)) hx hb dX8_sizeOf_16 (by decide) ?_
    refine lv_isub hx hb dX8_sizeOf_18 ?_
    obtain ⟨v6, ev6, h⟩ := zb_some h
    refine z_iald X hH ev6 dX8_sizeOf_19 ?_
    refine lv_goto (tgt := 42) hx hb dX8_sizeOf_20 (by decide) ?_
    exact wX8_sizeOf_42 X h _ _ _ hH hS (lv_sub hl [] rfl)
set_option maxRecDepth 100000 in
theorem kX8_sizeOf {N : Nat} {r : Int32} {T : zS} {S : zS} {z : Nat} {x0 : Nat} {x1 : Int32} {x2 : Int32} (h : fX8_sizeOf N S x0 x1 x2 = some (r, T)) : Met l yX8_sizeOf [.code yX8_sizeOf cX8_sizeOf 3 (some .int)] { frames := 0, cells := 0, slots := 0, locals := 0 } (zP D cy A S z [.ref x0, .int x1, .int x2]) (zQ D cy A T z (some (.int r))) 0 0 A := by
  refine z_met (lv := [(0, .ref x0), (1, .int x1), (2, .int x2)]) (by decide) (Nat.le_of_ble_eq_true rfl) rfl ?_
  intro p e s m below meth c X H locs ls hH hS hl
  exact wX8_sizeOf_0 X h _ _ _ hH hS (lv_sub hl [0, 1, 2] rfl)
set_option maxRecDepth 100000 in
set_option maxHeartbeats 4000000 in
theorem wX8_byteOf_40 {z : Nat} {N : Nat} {r : Int32} {T : zS} (X : zX D cy p s m meth c cX8_byteOf 4 RX8 (some .int))  {S : zS} {y0 : Int32} (h : fX8_byteOf_40 N S y0 = some (r, T)) : zWt D cy A p l e { frames := 0, cells := 0, slots := 0, locals := 0 } s m args below meth c z 0 0 0 0 (zQ D cy A T z (some (.int r))) S 4 40 [] [.int y0] := by
  obtain ⟨hx, hb, hml, hown, hr, hlocks, hT⟩ := id X
  intro H locs ls hH hS hl
  unfold fX8_byteOf_40 at h
  exact z_iret X hH hS h dX8_byteOf_40
set_option maxRecDepth 100000 in
set_option maxHeartbeats 4000000 in
theorem wX8_byteOf_0 {z : Nat} {N : Nat} {r : Int32} {T : zS} (X : zX D cy p s m meth c cX8_byteOf 4 RX8 (some .int))  {S : zS} {x0 : Nat} {x1 : Int32} {x2 : Int32} {x3 : Int32} (h : fX8_byteOf_0 N S x0 x1 x2 x3 = some (r, T)) : zWt D cy A p l e { frames := 0, cells := 0, slots := 0, locals := 0 } s m args below meth c z 0 0 0 0 (zQ D cy A T z (some (.int r))) S 4 0 [(0, .ref x0), (1, .int x1), (2, .int x2), (3, .int x3)] [] := by
  obtain ⟨hx, hb, hml, hown, hr, hlocks, hT⟩ := id X
  intro H locs ls hH hS hl
  unfold fX8_byteOf_0 at h
  refine lv_iload_n hx hb dX8_byteOf_0 rfl (lv_at hl 2 rfl) ?_
  refine lv_bipush (v := (100 : Int32)) hx hb dX8_byteOf_1 (by decide) ?_
  refine lv_icmp_lt (tgt := 29) hx hb dX8_byteOf_3 (by decide) (fun c => ?_) (fun c => ?_)
  · have h := (if_pos c).symm.trans h
    refine lv_aload_n hx hb dX8_byteOf_29 rfl (lv_at hl 0 rfl) ?_
    obtain ⟨v1, ev1, h⟩ := zb_some h
    refine z_getr X flX8_16 hH ev1 dX8_byteOf_30 ?_
    refine lv_bipush (v := (60 : Int32)) hx hb dX8_byteOf_33 (by decide) ?_
    refine lv_iload_n hx hb dX8_byteOf_35 rfl (lv_at hl 2 rfl) ?_
    refine lv_imul hx hb dX8_byteOf_36 ?_
    refine lv_iload_n hx hb dX8_byteOf_37 rfl (lv_at hl 3 rfl) ?_
    refine lv_iadd hx hb dX8_byteOf_38 ?_
    obtain ⟨v2, ev2, h⟩ := zb_some h
    refine z_iald X hH ev2 dX8_byteOf_39 ?_
    exact wX8_byteOf_40 X h _ _ _ hH hS (lv_sub hl [] rfl)
  · have h := (if_neg c).symm.trans h
    refine lv_aload_n hx hb dX8_byteOf_6 rfl (lv_at hl 0 rfl) ?_
    obtain ⟨v3, ev3, h⟩ := zb_some h
    refine z_getr X flX8_47 hH ev3 dX8_byteOf_7 ?_
    refine lv_sipush (v := (200 : Int32)) hx hb dX8_byteOf_10 (by decide) ?_
    refine lv_bipush (v := (24 : Int32)) hx hb dX8_byteOf_13 (by decide) ?_
    refine lv_iload_n hx hb dX8_byteOf_15 rfl (lv_at hl 1 rfl) ?_
    refine lv_imul hx hb dX8_byteOf_16 ?_
    refine lv_iload_n hx hb dX8_byteOf_17 rfl (lv_at hl 2 rfl) ?_
    refine lv_iadd hx hb dX8_byteOf_18 ?_
    refine lv_bipush (v := (100 : Int32)) hx hb dX8_byteOf_19 (by decide) ?_
    refine lv_isub hx hb dX8_byteOf_21 ?_
    refine lv_imul hx hb dX8_byteOf_22 ?_
    refine lv_iload_n hx hb dX8_byteOf_23 rfl (lv_at hl 3 rfl) ?_
    refine lv_iadd hx hb dX8_byteOf_24 ?_
    obtain ⟨v4, ev4, h⟩ := zb_some h
    refine z_iald X hH ev4 dX8_byteOf_25 ?_
    refine lv_goto (tgt := 40) hx hb dX8_byteOf_26 (by decide) ?_
    exact wX8_byteOf_40 X h _ _ _ hH hS (lv_sub hl [] rfl)
set_option maxRecDepth 100000 in
theorem kX8_byteOf {N : Nat} {r : Int32} {T : zS} {S : zS} {z : Nat} {x0 : Nat} {x1 : Int32} {x2 : Int32} {x3 : Int32} (h : fX8_byteOf N S x0 x1 x2 x3 = some (r, T)) : Met l yX8_byteOf [.code yX8_byteOf cX8_byteOf 4 (some .int)] { frames := 0, cells := 0, slots := 0, locals := 0 } (zP D cy A S z [.ref x0, .int x1, .int x2, .int x3]) (zQ D cy A T z (some (.int r))) 0 0 A := by
  refine z_met (lv := [(0, .ref x0), (1, .int x1), (2, .int x2), (3, .int x3)]) (by decide) (Nat.le_of_ble_eq_true rfl) rfl ?_
  intro p e s m below meth c X H locs ls hH hS hl
  exact wX8_byteOf_0 X h _ _ _ hH hS (lv_sub hl [0, 1, 2, 3] rfl)
set_option maxRecDepth 100000 in
set_option maxHeartbeats 4000000 in
theorem wX8_add_10 {z : Nat} {N : Nat} {T : zS} (X : zX D cy p s m meth c cX8_add 5 RX8 none) {K10 : zS × Nat × Int32 × Int32 × Int32 × Int32 → Option (zS)} (hK10 : ∀ (S : zS) (x0 : Nat) (x1 : Int32) (x2 : Int32) (x3 : Int32) (x4 : Int32), K10 (S, x0, x1, x2, x3, x4) = some T → zWt D cy A p l e { frames := 1, cells := 0, slots := 0, locals := 23 } s m args below meth c z 0 0 0 0 (zQ D cy A T z none) S 5 10 [(0, .ref x0), (1, .int x1), (2, .int x2), (3, .int x3), (4, .int x4)] []) {S : zS} {x0 : Nat} {x1 : Int32} {x2 : Int32} {x3 : Int32} {x4 : Int32} (h : fX8_add_10 N K10 S x0 x1 x2 x3 x4 = some T) : zWt D cy A p l e { frames := 1, cells := 0, slots := 0, locals := 23 } s m args below meth c z 0 0 0 0 (zQ D cy A T z none) S 5 10 [(0, .ref x0), (1, .int x1), (2, .int x2), (3, .int x3), (4, .int x4)] [] := by
  obtain ⟨hx, hb, hml, hown, hr, hlocks, hT⟩ := id X
  intro H locs ls hH hS hl
  unfold fX8_add_10 at h
  refine lv_iload hx hb dX8_add_10 (lv_at hl 4 rfl) ?_
  refine lv_iload_n hx hb dX8_add_12 rfl (lv_at hl 3 rfl) ?_
  refine lv_icmp_ge (tgt := 49) hx hb dX8_add_13 (by decide) (fun c => ?_) (fun c => ?_)
  · have h := (if_pos c).symm.trans h
    exact z_vret X hH hS h dX8_add_49
  · have h := (if_neg c).symm.trans h
    refine lv_aload_n hx hb dX8_add_16 rfl (lv_at hl 0 rfl) ?_
    obtain ⟨v1, ev1, h⟩ := zb_some h
    refine z_getr X flX8_50 hH ev1 dX8_add_17 ?_
    refine lv_aload_n hx hb dX8_add_20 rfl (lv_at hl 0 rfl) ?_
    obtain ⟨v2, ev2, h⟩ := zb_some h
    refine z_geti X flX8_133 hH ev2 dX8_add_21 ?_
    refine lv_aload_n hx hb dX8_add_24 rfl (lv_at hl 0 rfl) ?_
    refine lv_iload_n hx hb dX8_add_25 rfl (lv_at hl 1 rfl) ?_
    refine lv_iload_n hx hb dX8_add_26 rfl (lv_at hl 2 rfl) ?_
    refine lv_iload hx hb dX8_add_27 (lv_at hl 4 rfl) ?_
    obtain ⟨u3, eu3, h⟩ := zb_some h
    obtain ⟨v5, S4, eS4, h⟩ := zb2_some h
    refine z_cV (As := [.int x1, .int x2, .int x4]) X hl hH hS mlX8_136 eu3 (kX8_byteOf eS4) rfl rfl (Nat.le_of_ble_eq_true rfl) ⟨rfl, rfl, Nat.le_of_ble_eq_true rfl, Nat.le_of_ble_eq_true rfl⟩ ⟨Nat.le_refl _, Nat.le_refl _⟩ dX8_add_29 (fun H locs hH hS => ?_)
    obtain ⟨S6, eS6, h⟩ := zb_some h
    refine z_iast X hH hS eS6 dX8_add_32 (fun H locs hH hS => ?_)
    refine lv_aload_n hx hb dX8_add_33 rfl (lv_at hl 0 rfl) ?_
    refine lv_dup hx hb dX8_add_34 rfl ?_
    obtain ⟨v7, ev7, h⟩ := zb_some h
    refine z_geti X flX8_133 hH ev7 dX8_add_35 ?_
    refine lv_iconst (v := (1 : Int32)) hx hb dX8_add_38 (by decide) ?_
    refine lv_iadd hx hb dX8_add_39 ?_
    obtain ⟨S8, eS8, h⟩ := zb_some h
    refine z_puti X flX8_133 fpX8_18 hH hS eS8 dX8_add_40 (fun H locs hH hS => ?_)
    refine lv_iinc (v := (x4 + (1 : Int32))) (lv' := [(4, .int (x4 + (1 : Int32))), (0, .ref x0), (1, .int x1), (2, .int x2), (3, .int x3)]) hx hb dX8_add_43 hl (k := 4) rfl (z_ii (by decide) _) (by decide) rfl (fun ls hl => ?_)
    refine lv_goto (tgt := 10) hx hb dX8_add_46 (by decide) ?_
    exact hK10 _ _ _ _ _ _ h _ _ _ hH hS (lv_sub hl [1, 2, 3, 4, 0] rfl)
set_option maxRecDepth 100000 in
set_option maxHeartbeats 4000000 in
theorem uX8_add_10 {z : Nat} {N : Nat} {T : zS} (X : zX D cy p s m meth c cX8_add 5 RX8 none)  {S : zS} {x0 : Nat} {x1 : Int32} {x2 : Int32} {x3 : Int32} {x4 : Int32} (h : lX8_add_10 N S x0 x1 x2 x3 x4 = some T) : zWt D cy A p l e { frames := 1, cells := 0, slots := 0, locals := 23 } s m args below meth c z 0 0 0 0 (zQ D cy A T z none) S 5 10 [(0, .ref x0), (1, .int x1), (2, .int x2), (3, .int x3), (4, .int x4)] [] := by
  unfold lX8_add_10 at h
  refine zloop_ind (P := fun y => zWt D cy A p l e { frames := 1, cells := 0, slots := 0, locals := 23 } s m args below meth c z 0 0 0 0 (zQ D cy A T z none) y.1 5 10 [(0, .ref y.2.1), (1, .int y.2.2.1), (2, .int y.2.2.2.1), (3, .int y.2.2.2.2.1), (4, .int y.2.2.2.2.2)] []) ?_ N (S, x0, x1, x2, x3, x4) h
  intro K hK y hy
  obtain ⟨S, x0, x1, x2, x3, x4⟩ := y
  exact wX8_add_10 X (fun S x0 x1 x2 x3 x4 hq => hK (S, x0, x1, x2, x3, x4) hq) hy
set_option maxRecDepth 100000 in
set_option maxHeartbeats 4000000 in
theorem wX8_add_0 {z : Nat} {N : Nat} {T : zS} (X : zX D cy p s m meth c cX8_add 5 RX8 none)  {S : zS} {x0 : Nat} {x1 : Int32} {x2 : Int32} (h : fX8_add_0 N S x0 x1 x2 = some T) : zWt D cy A p l e { frames := 1, cells := 0, slots := 0, locals := 23 } s m args below meth c z 0 0 0 0 (zQ D cy A T z none) S 5 0 [(0, .ref x0), (1, .int x1), (2, .int x2)] [] := by
  obtain ⟨hx, hb, hml, hown, hr, hlocks, hT⟩ := id X
  intro H locs ls hH hS hl
  unfold fX8_add_0 at h
  refine lv_aload_n hx hb dX8_add_0 rfl (lv_at hl 0 rfl) ?_
  refine lv_iload_n hx hb dX8_add_1 rfl (lv_at hl 1 rfl) ?_
  refine lv_iload_n hx hb dX8_add_2 rfl (lv_at hl 2 rfl) ?_
  obtain ⟨u9, eu9, h⟩ := zb_some h
  obtain ⟨v11, S10, eS10, h⟩ := zb2_some h
  refine z_cV (As := [.int x1, .int x2]) X hl hH hS mlX8_129 eu9 (kX8_sizeOf eS10) rfl rfl (Nat.le_of_ble_eq_true rfl) ⟨rfl, rfl, Nat.le_of_ble_eq_true rfl, Nat.le_of_ble_eq_true rfl⟩ ⟨Nat.le_refl _, Nat.le_refl _⟩ dX8_add_3 (fun H locs hH hS => ?_)
  refine lv_istore_n (lv' := [(3, .int v11), (0, .ref x0), (1, .int x1), (2, .int x2)]) hx hb dX8_add_6 rfl hl (by decide) rfl (fun ls hl => ?_)
  refine lv_iconst (v := (0 : Int32)) hx hb dX8_add_7 (by decide) ?_
  refine lv_istore (lv' := [(4, .int (0 : Int32)), (3, .int v11), (0, .ref x0), (1, .int x1), (2, .int x2)]) hx hb dX8_add_8 hl (by decide) rfl (fun ls hl => ?_)
  exact uX8_add_10 X h _ _ _ hH hS (lv_sub hl [2, 3, 4, 1, 0] rfl)
set_option maxRecDepth 100000 in
theorem kX8_add {N : Nat} {T : zS} {S : zS} {z : Nat} {x0 : Nat} {x1 : Int32} {x2 : Int32} (h : fX8_add N S x0 x1 x2 = some T) : Met l yX8_add [.code yX8_add cX8_add 5 none] { frames := 1, cells := 0, slots := 0, locals := 23 } (zP D cy A S z [.ref x0, .int x1, .int x2]) (zQ D cy A T z none) 0 0 A := by
  refine z_met (lv := [(0, .ref x0), (1, .int x1), (2, .int x2)]) (by decide) (Nat.le_of_ble_eq_true rfl) rfl ?_
  intro p e s m below meth c X H locs ls hH hS hl
  exact wX8_add_0 X h _ _ _ hH hS (lv_sub hl [0, 1, 2] rfl)
set_option maxRecDepth 100000 in
set_option maxHeartbeats 4000000 in
theorem wX8_isReady_58 {z : Nat} {N : Nat} {r : Int32} {T : zS} (X : zX D cy p s m meth c cX8_isReady 5 RX8 (some .boolean)) {K18 : zS × Nat × Int32 × Int32 × Int32 × Int32 → Option (Int32 × zS)} (hK18 : ∀ (S : zS) (x0 : Nat) (x1 : Int32) (x2 : Int32) (x3 : Int32) (x4 : Int32), K18 (S, x0, x1, x2, x3, x4) = some (r, T) → zWt D cy A p l e { frames := 1, cells := 0, slots := 0, locals := 22 } s m args below meth c z 0 0 0 0 (zQ D cy A T z (some (.int r))) S 5 18 [(0, .ref x0), (1, .int x1), (2, .int x2), (3, .int x3), (4, .int x4)] []) {S : zS} {x0 : Nat} {x1 : Int32} {x2 : Int32} {x4 : Int32} {y0 : Int32} (h : fX8_isReady_58 N K18 S x0 x1 x2 x4 y0 = some (r, T)) : zWt D cy A p l e { frames := 1, cells := 0, slots := 0, locals := 22 } s m args below meth c z 0 0 0 0 (zQ D cy A T z (some (.int r))) S 5 58 [(0, .ref x0), (1, .int x1), (2, .int x2), (4, .int x4)] [.int y0] := by
  obtain ⟨hx, hb, hml, hown, hr, hlocks, hT⟩ := id X
  intro H locs ls hH hS hl
  unfold fX8_isReady_58 at h
  refine lv_istore_n (lv' := [(3, .int y0), (0, .ref x0), (1, .int x1), (2, .int x2), (4, .int x4)]) hx hb dX8_isReady_58 rfl hl (by decide) rfl (fun ls hl => ?_)
  refine lv_iinc (v := (x4 + (1 : Int32))) (lv' := [(4, .int (x4 + (1 : Int32))), (3, .int y0), (0, .ref x0), (1, .int x1), (2, .int x2)]) hx hb dX8_isReady_59 hl (k := 4) rfl (z_ii (by decide) _) (by decide) rfl (fun ls hl => ?_)
  refine lv_goto (tgt := 18) hx hb dX8_isReady_62 (by decide) ?_
  exact hK18 _ _ _ _ _ _ h _ _ _ hH hS (lv_sub hl [2, 3, 4, 1, 0] rfl)
set_option maxRecDepth 100000 in
set_option maxHeartbeats 4000000 in
theorem wX8_isReady_57 {z : Nat} {N : Nat} {r : Int32} {T : zS} (X : zX D cy p s m meth c cX8_isReady 5 RX8 (some .boolean)) {K18 : zS × Nat × Int32 × Int32 × Int32 × Int32 → Option (Int32 × zS)} (hK18 : ∀ (S : zS) (x0 : Nat) (x1 : Int32) (x2 : Int32) (x3 : Int32) (x4 : Int32), K18 (S, x0, x1, x2, x3, x4) = some (r, T) → zWt D cy A p l e { frames := 1, cells := 0, slots := 0, locals := 22 } s m args below meth c z 0 0 0 0 (zQ D cy A T z (some (.int r))) S 5 18 [(0, .ref x0), (1, .int x1), (2, .int x2), (3, .int x3), (4, .int x4)] []) {S : zS} {x0 : Nat} {x1 : Int32} {x2 : Int32} {x4 : Int32} (h : fX8_isReady_57 N K18 S x0 x1 x2 x4 = some (r, T)) : zWt D cy A p l e { frames := 1, cells := 0, slots := 0, locals := 22 } s m args below meth c z 0 0 0 0 (zQ D cy A T z (some (.int r))) S 5 57 [(0, .ref x0), (1, .int x1), (2, .int x2), (4, .int x4)] [] := by
  obtain ⟨hx, hb, hml, hown, hr, hlocks, hT⟩ := id X
  intro H locs ls hH hS hl
  unfold fX8_isReady_57 at h
  refine lv_iconst (v := (0 : Int32)) hx hb dX8_isReady_57 (by decide) ?_
  exact wX8_isReady_58 X hK18 h _ _ _ hH hS (lv_sub hl [0, 1, 2, 3] rfl)
set_option maxRecDepth 100000 in
set_option maxHeartbeats 4000000 in
theorem wX8_isReady_18 {z : Nat} {N : Nat} {r : Int32} {T : zS} (X : zX D cy p s m meth c cX8_isReady 5 RX8 (some .boolean)) {K18 : zS × Nat × Int32 × Int32 × Int32 × Int32 → Option (Int32 × zS)} (hK18 : ∀ (S : zS) (x0 : Nat) (x1 : Int32) (x2 : Int32) (x3 : Int32) (x4 : Int32), K18 (S, x0, x1, x2, x3, x4) = some (r, T) → zWt D cy A p l e { frames := 1, cells := 0, slots := 0, locals := 22 } s m args below meth c z 0 0 0 0 (zQ D cy A T z (some (.int r))) S 5 18 [(0, .ref x0), (1, .int x1), (2, .int x2), (3, .int x3), (4, .int x4)] []) {S : zS} {x0 : Nat} {x1 : Int32} {x2 : Int32} {x3 : Int32} {x4 : Int32} (h : fX8_isReady_18 N K18 S x0 x1 x2 x3 x4 = some (r, T)) : zWt D cy A p l e { frames := 1, cells := 0, slots := 0, locals := 22 } s m args below meth c z 0 0 0 0 (zQ D cy A T z (some (.int r))) S 5 18 [(0, .ref x0), (1, .int x1), (2, .int x2), (3, .int x3), (4, .int x4)] [] := by
  obtain ⟨hx, hb, hml, hown, hr, hlocks, hT⟩ := id X
  intro H locs ls hH hS hl
  unfold fX8_isReady_18 at h
  refine lv_iload hx hb dX8_isReady_18 (lv_at hl 4 rfl) ?_
  refine lv_aload_n hx hb dX8_isReady_20 rfl (lv_at hl 0 rfl) ?_
  obtain ⟨v1, ev1, h⟩ := zb_some h
  refine z_getr X flX8_35 hH ev1 dX8_isReady_21 ?_
  refine lv_iload_n hx hb dX8_isReady_24 rfl (lv_at hl 2 rfl) ?_
  obtain ⟨v2, ev2, h⟩ := zb_some h
  refine z_iald X hH ev2 dX8_isReady_25 ?_
  refine lv_icmp_ge (tgt := 65) hx hb dX8_isReady_26 (by decide) (fun c => ?_) (fun c => ?_)
  · have h := (if_pos c).symm.trans h
    refine lv_iload_n hx hb dX8_isReady_65 rfl (lv_at hl 3 rfl) ?_
    exact z_zret X hH hS h dX8_isReady_66
  · have h := (if_neg c).symm.trans h
    refine lv_iload_n hx hb dX8_isReady_29 rfl (lv_at hl 3 rfl) ?_
    refine lv_if_eq (tgt := 57) hx hb dX8_isReady_30 (by decide) (fun c => ?_) (fun c => ?_)
    · have h := (if_pos c).symm.trans h
      exact wX8_isReady_57 X hK18 h _ _ _ hH hS (lv_sub hl [0, 1, 2, 4] rfl)
    · have h := (if_neg c).symm.trans h
      refine lv_aload_n hx hb dX8_isReady_33 rfl (lv_at hl 0 rfl) ?_
      refine lv_iload_n hx hb dX8_isReady_34 rfl (lv_at hl 1 rfl) ?_
      refine lv_aload_n hx hb dX8_isReady_35 rfl (lv_at hl 0 rfl) ?_
      obtain ⟨v3, ev3, h⟩ := zb_some h
      refine z_getr X flX8_38 hH ev3 dX8_isReady_36 ?_
      refine lv_iconst (v := (4 : Int32)) hx hb dX8_isReady_39 (by decide) ?_
      refine lv_iload_n hx hb dX8_isReady_40 rfl (lv_at hl 2 rfl) ?_
      refine lv_imul hx hb dX8_isReady_41 ?_
      refine lv_iload hx hb dX8_isReady_42 (lv_at hl 4 rfl) ?_
      refine lv_iadd hx hb dX8_isReady_44 ?_
      obtain ⟨v4, ev4, h⟩ := zb_some h
      refine z_iald X hH ev4 dX8_isReady_45 ?_
      obtain ⟨u5, eu5, h⟩ := zb_some h
      obtain ⟨v7, S6, eS6, h⟩ := zb2_some h
      refine z_cV (As := [.int x1, .int v4]) X hl hH hS mlX8_129 eu5 (kX8_sizeOf eS6) rfl rfl (Nat.le_of_ble_eq_true rfl) ⟨rfl, rfl, Nat.le_of_ble_eq_true rfl, Nat.le_of_ble_eq_true rfl⟩ ⟨Nat.le_refl _, Nat.le_refl _⟩ dX8_isReady_46 (fun H locs hH hS => ?_)
      refine lv_iconst (v := (-1 : Int32)) hx hb dX8_isReady_49 (by decide) ?_
      refine lv_icmp_eq (tgt := 57) hx hb dX8_isReady_50 (by decide) (fun c => ?_) (fun c => ?_)
      · have h := (if_pos c).symm.trans h
        exact wX8_isReady_57 X hK18 h _ _ _ hH hS (lv_sub hl [0, 1, 2, 4] rfl)
      · have h := (if_neg c).symm.trans h
        refine lv_iconst (v := (1 : Int32)) hx hb dX8_isReady_53 (by decide) ?_
        refine lv_goto (tgt := 58) hx hb dX8_isReady_54 (by decide) ?_
        exact wX8_isReady_58 X hK18 h _ _ _ hH hS (lv_sub hl [0, 1, 2, 4] rfl)
set_option maxRecDepth 100000 in
set_option maxHeartbeats 4000000 in
theorem uX8_isReady_18 {z : Nat} {N : Nat} {r : Int32} {T : zS} (X : zX D cy p s m meth c cX8_isReady 5 RX8 (some .boolean))  {S : zS} {x0 : Nat} {x1 : Int32} {x2 : Int32} {x3 : Int32} {x4 : Int32} (h : lX8_isReady_18 N S x0 x1 x2 x3 x4 = some (r, T)) : zWt D cy A p l e { frames := 1, cells := 0, slots := 0, locals := 22 } s m args below meth c z 0 0 0 0 (zQ D cy A T z (some (.int r))) S 5 18 [(0, .ref x0), (1, .int x1), (2, .int x2), (3, .int x3), (4, .int x4)] [] := by
  unfold lX8_isReady_18 at h
  refine zloop_ind (P := fun y => zWt D cy A p l e { frames := 1, cells := 0, slots := 0, locals := 22 } s m args below meth c z 0 0 0 0 (zQ D cy A T z (some (.int r))) y.1 5 18 [(0, .ref y.2.1), (1, .int y.2.2.1), (2, .int y.2.2.2.1), (3, .int y.2.2.2.2.1), (4, .int y.2.2.2.2.2)] []) ?_ N (S, x0, x1, x2, x3, x4) h
  intro K hK y hy
  obtain ⟨S, x0, x1, x2, x3, x4⟩ := y
  exact wX8_isReady_18 X (fun S x0 x1 x2 x3 x4 hq => hK (S, x0, x1, x2, x3, x4) hq) hy
set_option maxRecDepth 100000 in
set_option maxHeartbeats 4000000 in
theorem wX8_isReady_14 {z : Nat} {N : Nat} {r : Int32} {T : zS} (X : zX D cy p s m meth c cX8_isReady 5 RX8 (some .boolean))  {S : zS} {x0 : Nat} {x1 : Int32} {x2 : Int32} {y0 : Int32} (h : fX8_isReady_14 N S x0 x1 x2 y0 = some (r, T)) : zWt D cy A p l e { frames := 1, cells := 0, slots := 0, locals := 22 } s m args below meth c z 0 0 0 0 (zQ D cy A T z (some (.int r))) S 5 14 [(0, .ref x0), (1, .int x1), (2, .int x2)] [.int y0] := by
  obtain ⟨hx, hb, hml, hown, hr, hlocks, hT⟩ := id X
  intro H locs ls hH hS hl
  unfold fX8_isReady_14 at h
  refine lv_istore_n (lv' := [(3, .int y0), (0, .ref x0), (1, .int x1), (2, .int x2)]) hx hb dX8_isReady_14 rfl hl (by decide) rfl (fun ls hl => ?_)
  refine lv_iconst (v := (0 : Int32)) hx hb dX8_isReady_15 (by decide) ?_
  refine lv_istore (lv' := [(4, .int (0 : Int32)), (3, .int y0), (0, .ref x0), (1, .int x1), (2, .int x2)]) hx hb dX8_isReady_16 hl (by decide) rfl (fun ls hl => ?_)
  exact uX8_isReady_18 X h _ _ _ hH hS (lv_sub hl [2, 3, 4, 1, 0] rfl)
set_option maxRecDepth 100000 in
set_option maxHeartbeats 4000000 in
theorem wX8_isReady_0 {z : Nat} {N : Nat} {r : Int32} {T : zS} (X : zX D cy p s m meth c cX8_isReady 5 RX8 (some .boolean))  {S : zS} {x0 : Nat} {x1 : Int32} {x2 : Int32} (h : fX8_isReady_0 N S x0 x1 x2 = some (r, T)) : zWt D cy A p l e { frames := 1, cells := 0, slots := 0, locals := 22 } s m args below meth c z 0 0 0 0 (zQ D cy A T z (some (.int r))) S 5 0 [(0, .ref x0), (1, .int x1), (2, .int x2)] [] := by
  obtain ⟨hx, hb, hml, hown, hr, hlocks, hT⟩ := id X
  intro H locs ls hH hS hl
  unfold fX8_isReady_0 at h
  refine lv_aload_n hx hb dX8_isReady_0 rfl (lv_at hl 0 rfl) ?_
  obtain ⟨v8, ev8, h⟩ := zb_some h
  refine z_getr X flX8_35 hH ev8 dX8_isReady_1 ?_
  refine lv_iload_n hx hb dX8_isReady_4 rfl (lv_at hl 2 rfl) ?_
  obtain ⟨v9, ev9, h⟩ := zb_some h
  refine z_iald X hH ev9 dX8_isReady_5 ?_
  refine lv_if_le (tgt := 13) hx hb dX8_isReady_6 (by decide) (fun c => ?_) (fun c => ?_)
  · have h := (if_pos c).symm.trans h
    refine lv_iconst (v := (0 : Int32)) hx hb dX8_isReady_13 (by decide) ?_
    exact wX8_isReady_14 X h _ _ _ hH hS (lv_sub hl [0, 1, 2] rfl)
  · have h := (if_neg c).symm.trans h
    refine lv_iconst (v := (1 : Int32)) hx hb dX8_isReady_9 (by decide) ?_
    refine lv_goto (tgt := 14) hx hb dX8_isReady_10 (by decide) ?_
    exact wX8_isReady_14 X h _ _ _ hH hS (lv_sub hl [0, 1, 2] rfl)
set_option maxRecDepth 100000 in
theorem kX8_isReady {N : Nat} {r : Int32} {T : zS} {S : zS} {z : Nat} {x0 : Nat} {x1 : Int32} {x2 : Int32} (h : fX8_isReady N S x0 x1 x2 = some (r, T)) : Met l yX8_isReady [.code yX8_isReady cX8_isReady 5 (some .boolean)] { frames := 1, cells := 0, slots := 0, locals := 22 } (zP D cy A S z [.ref x0, .int x1, .int x2]) (zQ D cy A T z (some (.int r))) 0 0 A := by
  refine z_met (lv := [(0, .ref x0), (1, .int x1), (2, .int x2)]) (by decide) (Nat.le_of_ble_eq_true rfl) rfl ?_
  intro p e s m below meth c X H locs ls hH hS hl
  exact wX8_isReady_0 X h _ _ _ hH hS (lv_sub hl [0, 1, 2] rfl)
end
