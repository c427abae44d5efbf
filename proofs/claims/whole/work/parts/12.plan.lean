section
variable {D : va_G} {cy : Nat → ClassId} {A : Nat → Prop} {p : Program} {l : Launch} {e : Env} {s : State} {m : MethodId} {args : Array Value} {below : List Frame} {meth : Method} {c : Code}
set_option maxRecDepth 100000 in
set_option maxHeartbeats 4000000 in
theorem wX4_input_0 {z : Nat} {N : Nat} {r : Int32} {T : zS} (X : zX D cy p s m meth c cX4_input 3 RX4 (some .int))  {S : zS} {x0 : Nat} {x1 : Int32} {x2 : Int32} (h : rX4_input_0 N S x0 x1 x2 = some (r, T)) : zWt D cy A p l e { frames := 0, cells := 0, slots := 0, locals := 0 } s m args below meth c z 0 0 0 0 (zQ D cy A T z (some (.int r))) S 3 0 [(0, .ref x0), (1, .int x1), (2, .int x2)] [] := by
  obtain ⟨hx, hb, hml, hown, hr, hlocks, hT⟩ := id X
  intro H locs ls hH hS hl
  unfold rX4_input_0 at h
  refine lv_aload_n hx hb dX4_input_0 rfl (lv_at hl 0 rfl) ?_
  obtain ⟨v1, ev1, h⟩ := zb_some h
  refine z_getr X flX4_21 hH ev1 dX4_input_1 ?_
  refine lv_iload_n hx hb dX4_input_4 rfl (lv_at hl 1 rfl) ?_
  refine lv_iconst (v := (4 : Int32)) hx hb dX4_input_5 (by decide) ?_
  refine lv_imul hx hb dX4_input_6 ?_
  refine lv_iload_n hx hb dX4_input_7 rfl (lv_at hl 2 rfl) ?_
  refine lv_iadd hx hb dX4_input_8 ?_
  obtain ⟨v2, ev2, h⟩ := zb_some h
  refine z_iald X hH ev2 dX4_input_9 ?_
  exact z_iret X hH hS h dX4_input_10
set_option maxRecDepth 100000 in
theorem kX4_input {N : Nat} {r : Int32} {T : zS} {S : zS} {z : Nat} {x0 : Nat} {x1 : Int32} {x2 : Int32} (h : rX4_input N S x0 x1 x2 = some (r, T)) : Met l yX4_input [.code yX4_input cX4_input 3 (some .int)] { frames := 0, cells := 0, slots := 0, locals := 0 } (zP D cy A S z [.ref x0, .int x1, .int x2]) (zQ D cy A T z (some (.int r))) 0 0 A := by
  refine z_met (lv := [(0, .ref x0), (1, .int x1), (2, .int x2)]) (by decide) (Nat.le_of_ble_eq_true rfl) rfl ?_
  intro p e s m below meth c X H locs ls hH hS hl
  exact wX4_input_0 X h _ _ _ hH hS (lv_sub hl [0, 1, 2] rfl)
set_option maxRecDepth 100000 in
set_option maxHeartbeats 4000000 in
theorem wX4_stepsReachedBy_31 {z : Nat} {N : Nat} {r : Int32} {T : zS} (X : zX D cy p s m meth c cX4_stepsReachedBy 4 RX4 (some .int)) {K4 : zS × Nat × Int32 × Int32 × Int32 → Option (Int32 × zS)} (hK4 : ∀ (S : zS) (x0 : Nat) (x1 : Int32) (x2 : Int32) (x3 : Int32), K4 (S, x0, x1, x2, x3) = some (r, T) → zWt D cy A p l e { frames := 0, cells := 0, slots := 0, locals := 0 } s m args below meth c z 0 0 0 0 (zQ D cy A T z (some (.int r))) S 4 4 [(0, .ref x0), (1, .int x1), (2, .int x2), (3, .int x3)] []) {S : zS} {x0 : Nat} {x1 : Int32} {x2 : Int32} {x3 : Int32} (h : rX4_stepsReachedBy_31 N K4 S x0 x1 x2 x3 = some (r, T)) : zWt D cy A p l e { frames := 0, cells := 0, slots := 0, locals := 0 } s m args below meth c z 0 0 0 0 (zQ D cy A T z (some (.int r))) S 4 31 [(0, .ref x0), (1, .int x1), (2, .int x2), (3, .int x3)] [] := by
  obtain ⟨hx, hb, hml, hown, hr, hlocks, hT⟩ := id X
  intro H locs ls hH hS hl
  unfold rX4_stepsReachedBy_31 at h
  refine lv_iinc (v := (x3 + (1 : Int32))) (lv' := [(3, .int (x3 + (1 : Int32))), (0, .ref x0), (1, .int x1), (2, .int x2)]) hx hb dX4_stepsReachedBy_31 hl (k := 3) rfl (z_ii (by decide) _) (by decide) rfl (fun ls hl => ?_)
  refine lv_goto (tgt := 4) hx hb dX4_stepsReachedBy_34 (by decide) ?_
  exact hK4 _ _ _ _ _ h _ _ _ hH hS (lv_sub hl [1, 2, 3, 0] rfl)
set_option maxRecDepth 100000 in
set_option maxHeartbeats 4000000 in
theorem wX4_stepsReachedBy_4 {z : Nat} {N : Nat} {r : Int32} {T : zS} (X : zX D cy p s m meth c cX4_stepsReachedBy 4 RX4 (some .int)) {K4 : zS × Nat × Int32 × Int32 × Int32 → Option (Int32 × zS)} (hK4 : ∀ (S : zS) (x0 : Nat) (x1 : Int32) (x2 : Int32) (x3 : Int32), K4 (S, x0, x1, x2, x3) = some (r, T) → zWt D cy A p l e { frames := 0, cells := 0, slots := 0, locals := 0 } s m args below meth c z 0 0 0 0 (zQ D cy A T z (some (.int r))) S 4 4 [(0, .ref x0), (1, .int x1), (2, .int x2), (3, .int x3)] []) {S : zS} {x0 : Nat} {x1 : Int32} {x2 : Int32} {x3 : Int32} (h : rX4_stepsReachedBy_4 N K4 S x0 x1 x2 x3 = some (r, T)) : zWt D cy A p l e { frames := 0, cells := 0, slots := 0, locals := 0 } s m args below meth c z 0 0 0 0 (zQ D cy A T z (some (.int r))) S 4 4 [(0, .ref x0), (1, .int x1), (2, .int x2), (3, .int x3)] [] := by
  obtain ⟨hx, hb, hml, hown, hr, hlocks, hT⟩ := id X
  intro H locs ls hH hS hl
  unfold rX4_stepsReachedBy_4 at h
  refine lv_iload_n hx hb dX4_stepsReachedBy_4 rfl (lv_at hl 3 rfl) ?_
  refine lv_aload_n hx hb dX4_stepsReachedBy_5 rfl (lv_at hl 0 rfl) ?_
  obtain ⟨v1, ev1, h⟩ := zb_some h
  refine z_geti X flX4_36 hH ev1 dX4_stepsReachedBy_6 ?_
  refine lv_icmp_ge (tgt := 37) hx hb dX4_stepsReachedBy_9 (by decide) (fun c => ?_) (fun c => ?_)
  · have h := (if_pos c).symm.trans h
    refine lv_iload_n hx hb dX4_stepsReachedBy_37 rfl (lv_at hl 2 rfl) ?_
    exact z_iret X hH hS h dX4_stepsReachedBy_38
  · have h := (if_neg c).symm.trans h
    refine lv_aload_n hx hb dX4_stepsReachedBy_12 rfl (lv_at hl 0 rfl) ?_
    obtain ⟨v2, ev2, h⟩ := zb_some h
    refine z_getr X flX4_33 hH ev2 dX4_stepsReachedBy_13 ?_
    refine lv_iload_n hx hb dX4_stepsReachedBy_16 rfl (lv_at hl 3 rfl) ?_
    obtain ⟨v3, ev3, h⟩ := zb_some h
    refine z_iald X hH ev3 dX4_stepsReachedBy_17 ?_
    refine lv_iload_n hx hb dX4_stepsReachedBy_18 rfl (lv_at hl 1 rfl) ?_
    refine lv_iushr hx hb dX4_stepsReachedBy_19 (zush_eq _ _) ?_
    refine lv_iconst (v := (1 : Int32)) hx hb dX4_stepsReachedBy_20 (by decide) ?_
    refine lv_iand hx hb dX4_stepsReachedBy_21 ?_
    refine lv_if_eq (tgt := 31) hx hb dX4_stepsReachedBy_22 (by decide) (fun c => ?_) (fun c => ?_)
    · have h := (if_pos c).symm.trans h
      exact wX4_stepsReachedBy_31 X hK4 h _ _ _ hH hS (lv_sub hl [0, 1, 2, 3] rfl)
    · have h := (if_neg c).symm.trans h
      refine lv_iload_n hx hb dX4_stepsReachedBy_25 rfl (lv_at hl 2 rfl) ?_
      refine lv_iconst (v := (1 : Int32)) hx hb dX4_stepsReachedBy_26 (by decide) ?_
      refine lv_iload_n hx hb dX4_stepsReachedBy_27 rfl (lv_at hl 3 rfl) ?_
      refine lv_ishl hx hb dX4_stepsReachedBy_28 ?_
      refine lv_ior hx hb dX4_stepsReachedBy_29 ?_
      refine lv_topi (fun v4 ev4 => ?_)
      have h := zlet_at ev4 h
      refine lv_istore_n (lv' := [(2, .int v4), (0, .ref x0), (1, .int x1), (3, .int x3)]) hx hb dX4_stepsReachedBy_30 rfl hl (by decide) rfl (fun ls hl => ?_)
      exact wX4_stepsReachedBy_31 X hK4 h _ _ _ hH hS (lv_sub hl [1, 2, 0, 3] rfl)
set_option maxRecDepth 100000 in
set_option maxHeartbeats 4000000 in
theorem uX4_stepsReachedBy_4 {z : Nat} {N : Nat} {r : Int32} {T : zS} (X : zX D cy p s m meth c cX4_stepsReachedBy 4 RX4 (some .int))  {S : zS} {x0 : Nat} {x1 : Int32} {x2 : Int32} {x3 : Int32} (h : rlX4_stepsReachedBy_4 N S x0 x1 x2 x3 = some (r, T)) : zWt D cy A p l e { frames := 0, cells := 0, slots := 0, locals := 0 } s m args below meth c z 0 0 0 0 (zQ D cy A T z (some (.int r))) S 4 4 [(0, .ref x0), (1, .int x1), (2, .int x2), (3, .int x3)] [] := by
  unfold rlX4_stepsReachedBy_4 at h
  refine zloop_ind (P := fun y => zWt D cy A p l e { frames := 0, cells := 0, slots := 0, locals := 0 } s m args below meth c z 0 0 0 0 (zQ D cy A T z (some (.int r))) y.1 4 4 [(0, .ref y.2.1), (1, .int y.2.2.1), (2, .int y.2.2.2.1), (3, .int y.2.2.2.2)] []) ?_ N (S, x0, x1, x2, x3) h
  intro K hK y hy
  obtain ⟨S, x0, x1, x2, x3⟩ := y
  exact wX4_stepsReachedBy_4 X (fun S x0 x1 x2 x3 hq => hK (S, x0, x1, x2, x3) hq) hy
set_option maxRecDepth 100000 in
set_option maxHeartbeats 4000000 in
theorem wX4_stepsReachedBy_0 {z : Nat} {N : Nat} {r : Int32} {T : zS} (X : zX D cy p s m meth c cX4_stepsReachedBy 4 RX4 (some .int))  {S : zS} {x0 : Nat} {x1 : Int32} (h : rX4_stepsReachedBy_0 N S x0 x1 = some (r, T)) : zWt D cy A p l e { frames := 0, cells := 0, slots := 0, locals := 0 } s m args below meth c z 0 0 0 0 (zQ D cy A T z (some (.int r))) S 4 0 [(0, .ref x0), (1, .int x1)] [] := by
  obtain ⟨hx, hb, hml, hown, hr, hlocks, hT⟩ := id X
  intro H locs ls hH hS hl
  unfold rX4_stepsReachedBy_0 at h
  refine lv_iconst (v := (0 : Int32)) hx hb dX4_stepsReachedBy_0 (by decide) ?_
  refine lv_istore_n (lv' := [(2, .int (0 : Int32)), (0, .ref x0), (1, .int x1)]) hx hb dX4_stepsReachedBy_1 rfl hl (by decide) rfl (fun ls hl => ?_)
  refine lv_iconst (v := (0 : Int32)) hx hb dX4_stepsReachedBy_2 (by decide) ?_
  refine lv_istore_n (lv' := [(3, .int (0 : Int32)), (2, .int (0 : Int32)), (0, .ref x0), (1, .int x1)]) hx hb dX4_stepsReachedBy_3 rfl hl (by decide) rfl (fun ls hl => ?_)
  exact uX4_stepsReachedBy_4 X h _ _ _ hH hS (lv_sub hl [2, 3, 1, 0] rfl)
set_option maxRecDepth 100000 in
theorem kX4_stepsReachedBy {N : Nat} {r : Int32} {T : zS} {S : zS} {z : Nat} {x0 : Nat} {x1 : Int32} (h : rX4_stepsReachedBy N S x0 x1 = some (r, T)) : Met l yX4_stepsReachedBy [.code yX4_stepsReachedBy cX4_stepsReachedBy 4 (some .int)] { frames := 0, cells := 0, slots := 0, locals := 0 } (zP D cy A S z [.ref x0, .int x1]) (zQ D cy A T z (some (.int r))) 0 0 A := by
  refine z_met (lv := [(0, .ref x0), (1, .int x1)]) (by decide) (Nat.le_of_ble_eq_true rfl) rfl ?_
  intro p e s m below meth c X H locs ls hH hS hl
  exact wX4_stepsReachedBy_0 X h _ _ _ hH hS (lv_sub hl [0, 1] rfl)
set_option maxRecDepth 100000 in
set_option maxHeartbeats 4000000 in
theorem wX4_ownWord_34 {z : Nat} {N : Nat} {r : Int32} {T : zS} (X : zX D cy p s m meth c cX4_ownWord 3 RX4 (some .int))  {S : zS} {y0 : Int32} (h : rX4_ownWord_34 N S y0 = some (r, T)) : zWt D cy A p l e { frames := 0, cells := 0, slots := 0, locals := 0 } s m args below meth c z 0 0 0 0 (zQ D cy A T z (some (.int r))) S 3 34 [] [.int y0] := by
  obtain ⟨hx, hb, hml, hown, hr, hlocks, hT⟩ := id X
  intro H locs ls hH hS hl
  unfold rX4_ownWord_34 at h
  exact z_iret X hH hS h dX4_ownWord_34
set_option maxRecDepth 100000 in
set_option maxHeartbeats 4000000 in
theorem wX4_ownWord_22 {z : Nat} {N : Nat} {r : Int32} {T : zS} (X : zX D cy p s m meth c cX4_ownWord 3 RX4 (some .int))  {S : zS} {x0 : Nat} {x1 : Int32} (h : rX4_ownWord_22 N S x0 x1 = some (r, T)) : zWt D cy A p l e { frames := 0, cells := 0, slots := 0, locals := 0 } s m args below meth c z 0 0 0 0 (zQ D cy A T z (some (.int r))) S 3 22 [(0, .ref x0), (1, .int x1)] [] := by
  obtain ⟨hx, hb, hml, hown, hr, hlocks, hT⟩ := id X
  intro H locs ls hH hS hl
  unfold rX4_ownWord_22 at h
  refine lv_iconst (v := (1 : Int32)) hx hb dX4_ownWord_22 (by decide) ?_
  refine lv_aload_n hx hb dX4_ownWord_23 rfl (lv_at hl 0 rfl) ?_
  obtain ⟨v1, ev1, h⟩ := zb_some h
  refine z_getr X flX4_18 hH ev1 dX4_ownWord_24 ?_
  refine lv_iload_n hx hb dX4_ownWord_27 rfl (lv_at hl 1 rfl) ?_
  obtain ⟨v2, ev2, h⟩ := zb_some h
  refine z_iald X hH ev2 dX4_ownWord_28 ?_
  refine lv_ishl hx hb dX4_ownWord_29 ?_
  refine lv_goto (tgt := 34) hx hb dX4_ownWord_30 (by decide) ?_
  exact wX4_ownWord_34 X h _ _ _ hH hS (lv_sub hl [] rfl)
set_option maxRecDepth 100000 in
set_option maxHeartbeats 4000000 in
theorem wX4_ownWord_0 {z : Nat} {N : Nat} {r : Int32} {T : zS} (X : zX D cy p s m meth c cX4_ownWord 3 RX4 (some .int))  {S : zS} {x0 : Nat} {x1 : Int32} (h : rX4_ownWord_0 N S x0 x1 = some (r, T)) : zWt D cy A p l e { frames := 0, cells := 0, slots := 0, locals := 0 } s m args below meth c z 0 0 0 0 (zQ D cy A T z (some (.int r))) S 3 0 [(0, .ref x0), (1, .int x1)] [] := by
  obtain ⟨hx, hb, hml, hown, hr, hlocks, hT⟩ := id X
  intro H locs ls hH hS hl
  unfold rX4_ownWord_0 at h
  refine lv_aload_n hx hb dX4_ownWord_0 rfl (lv_at hl 0 rfl) ?_
  obtain ⟨v3, ev3, h⟩ := zb_some h
  refine z_getr X flX4_9 hH ev3 dX4_ownWord_1 ?_
  refine lv_iload_n hx hb dX4_ownWord_4 rfl (lv_at hl 1 rfl) ?_
  obtain ⟨v4, ev4, h⟩ := zb_some h
  refine z_iald X hH ev4 dX4_ownWord_5 ?_
  refine lv_istore_n (lv' := [(2, .int v4), (0, .ref x0), (1, .int x1)]) hx hb dX4_ownWord_6 rfl hl (by decide) rfl (fun ls hl => ?_)
  refine lv_iload_n hx hb dX4_ownWord_7 rfl (lv_at hl 0 rfl) ?_
  refine lv_iconst (v := (1 : Int32)) hx hb dX4_ownWord_8 (by decide) ?_
  refine lv_icmp_eq (tgt := 22) hx hb dX4_ownWord_9 (by decide) (fun c => ?_) (fun c => ?_)
  · have h := (if_pos c).symm.trans h
    exact wX4_ownWord_22 X h _ _ _ hH hS (lv_sub hl [1, 2] rfl)
  · have h := (if_neg c).symm.trans h
    refine lv_iload_n hx hb dX4_ownWord_12 rfl (lv_at hl 0 rfl) ?_
    refine lv_iconst (v := (2 : Int32)) hx hb dX4_ownWord_13 (by decide) ?_
    refine lv_icmp_eq (tgt := 22) hx hb dX4_ownWord_14 (by decide) (fun c => ?_) (fun c => ?_)
    · have h := (if_pos c).symm.trans h
      exact wX4_ownWord_22 X h _ _ _ hH hS (lv_sub hl [1, 2] rfl)
    · have h := (if_neg c).symm.trans h
      refine lv_iload_n hx hb dX4_ownWord_17 rfl (lv_at hl 0 rfl) ?_
      refine lv_iconst (v := (5 : Int32)) hx hb dX4_ownWord_18 (by decide) ?_
      refine lv_icmp_ne (tgt := 33) hx hb dX4_ownWord_19 (by decide) (fun c => ?_) (fun c => ?_)
      · have h := (if_neg c).symm.trans h
        refine lv_iconst (v := (0 : Int32)) hx hb dX4_ownWord_33 (by decide) ?_
        exact wX4_ownWord_34 X h _ _ _ hH hS (lv_sub hl [] rfl)
      · have h := (if_pos c).symm.trans h
        exact wX4_ownWord_22 X h _ _ _ hH hS (lv_sub hl [1, 2] rfl)
set_option maxRecDepth 100000 in
theorem kX4_ownWord {N : Nat} {r : Int32} {T : zS} {S : zS} {z : Nat} {x0 : Nat} {x1 : Int32} (h : rX4_ownWord N S x0 x1 = some (r, T)) : Met l yX4_ownWord [.code yX4_ownWord cX4_ownWord 3 (some .int)] { frames := 0, cells := 0, slots := 0, locals := 0 } (zP D cy A S z [.ref x0, .int x1]) (zQ D cy A T z (some (.int r))) 0 0 A := by
  refine z_met (lv := [(0, .ref x0), (1, .int x1)]) (by decide) (Nat.le_of_ble_eq_true rfl) rfl ?_
  intro p e s m below meth c X H locs ls hH hS hl
  exact wX4_ownWord_0 X h _ _ _ hH hS (lv_sub hl [0, 1] rfl)
set_option maxRecDepth 100000 in
set_option maxHeartbeats 4000000 in
theorem wX2_way_46 {z : Nat} {N : Nat} {r : Int32} {T : zS} (X : zX D cy p s m meth c cX2_way 5 RX2 (some .int))  {S : zS} {x2 : Int32} (h : rX2_way_46 N S x2 = some (r, T)) : zWt D cy A p l e { frames := 0, cells := 0, slots := 0, locals := 0 } s m args below meth c z 0 0 0 0 (zQ D cy A T z (some (.int r))) S 5 46 [(2, .int x2)] [] := by
  obtain ⟨hx, hb, hml, hown, hr, hlocks, hT⟩ := id X
  intro H locs ls hH hS hl
  unfold rX2_way_46 at h
  refine lv_iload_n hx hb dX2_way_46 rfl (lv_at hl 0 rfl) ?_
  exact z_iret X hH hS h dX2_way_47
set_option maxRecDepth 100000 in
set_option maxHeartbeats 4000000 in
theorem wX2_way_7 {z : Nat} {N : Nat} {r : Int32} {T : zS} (X : zX D cy p s m meth c cX2_way 5 RX2 (some .int)) {K7 : zS × Nat × Int32 × Int32 × Int32 → Option (Int32 × zS)} (hK7 : ∀ (S : zS) (x0 : Nat) (x2 : Int32) (x3 : Int32) (x4 : Int32), K7 (S, x0, x2, x3, x4) = some (r, T) → zWt D cy A p l e { frames := 0, cells := 0, slots := 0, locals := 0 } s m args below meth c z 0 0 0 0 (zQ D cy A T z (some (.int r))) S 5 7 [(0, .ref x0), (2, .int x2), (3, .int x3), (4, .int x4)] []) {S : zS} {x0 : Nat} {x2 : Int32} {x3 : Int32} {x4 : Int32} (h : rX2_way_7 N K7 S x0 x2 x3 x4 = some (r, T)) : zWt D cy A p l e { frames := 0, cells := 0, slots := 0, locals := 0 } s m args below meth c z 0 0 0 0 (zQ D cy A T z (some (.int r))) S 5 7 [(0, .ref x0), (2, .int x2), (3, .int x3), (4, .int x4)] [] := by
  obtain ⟨hx, hb, hml, hown, hr, hlocks, hT⟩ := id X
  intro H locs ls hH hS hl
  unfold rX2_way_7 at h
  refine lv_iload hx hb dX2_way_7 (lv_at hl 3 rfl) ?_
  refine lv_bipush (v := (30 : Int32)) hx hb dX2_way_9 (by decide) ?_
  refine lv_icmp_ge (tgt := 46) hx hb dX2_way_11 (by decide) (fun c => ?_) (fun c => ?_)
  · have h := (if_pos c).symm.trans h
    exact wX2_way_46 X h _ _ _ hH hS (lv_sub hl [1] rfl)
  · have h := (if_neg c).symm.trans h
    refine lv_iload_n hx hb dX2_way_14 rfl (lv_at hl 2 rfl) ?_
    refine lv_iconst (v := (-1 : Int32)) hx hb dX2_way_15 (by decide) ?_
    refine lv_icmp_eq (tgt := 46) hx hb dX2_way_16 (by decide) (fun c => ?_) (fun c => ?_)
    · have h := (if_pos c).symm.trans h
      exact wX2_way_46 X h _ _ _ hH hS (lv_sub hl [1] rfl)
    · have h := (if_neg c).symm.trans h
      refine lv_iload_n hx hb dX2_way_19 rfl (lv_at hl 1 rfl) ?_
      refine lv_iload_n hx hb dX2_way_20 rfl (lv_at hl 2 rfl) ?_
      refine lv_iushr hx hb dX2_way_21 (zush_eq _ _) ?_
      refine lv_iconst (v := (1 : Int32)) hx hb dX2_way_22 (by decide) ?_
      refine lv_iand hx hb dX2_way_23 ?_
      refine lv_if_ne (tgt := 46) hx hb dX2_way_24 (by decide) (fun c => ?_) (fun c => ?_)
      · have h := (if_neg c).symm.trans h
        exact wX2_way_46 X h _ _ _ hH hS (lv_sub hl [1] rfl)
      · have h := (if_pos c).symm.trans h
        refine lv_iload_n hx hb dX2_way_27 rfl (lv_at hl 1 rfl) ?_
        refine lv_iconst (v := (1 : Int32)) hx hb dX2_way_28 (by decide) ?_
        refine lv_iload_n hx hb dX2_way_29 rfl (lv_at hl 2 rfl) ?_
        refine lv_ishl hx hb dX2_way_30 ?_
        refine lv_ior hx hb dX2_way_31 ?_
        refine lv_topi (fun v1 ev1 => ?_)
        have h := zlet_at ev1 h
        refine lv_istore_n (lv' := [(2, .int v1), (0, .ref x0), (3, .int x3), (4, .int x4)]) hx hb dX2_way_32 rfl hl (by decide) rfl (fun ls hl => ?_)
        refine lv_aload_n hx hb dX2_way_33 rfl (lv_at hl 1 rfl) ?_
        obtain ⟨v2, ev2, h⟩ := zb_some h
        refine z_getr X flX2_9 hH ev2 dX2_way_34 ?_
        refine lv_iload_n hx hb dX2_way_37 rfl (lv_at hl 2 rfl) ?_
        obtain ⟨v3, ev3, h⟩ := zb_some h
        refine z_iald X hH ev3 dX2_way_38 ?_
        refine lv_istore_n (lv' := [(3, .int v3), (2, .int v1), (0, .ref x0), (4, .int x4)]) hx hb dX2_way_39 rfl hl (by decide) rfl (fun ls hl => ?_)
        refine lv_iinc (v := (x4 + (1 : Int32))) (lv' := [(4, .int (x4 + (1 : Int32))), (3, .int v3), (2, .int v1), (0, .ref x0)]) hx hb dX2_way_40 hl (k := 3) rfl (z_ii (by decide) _) (by decide) rfl (fun ls hl => ?_)
        refine lv_goto (tgt := 7) hx hb dX2_way_43 (by decide) ?_
        exact hK7 _ _ _ _ _ h _ _ _ hH hS (lv_sub hl [3, 2, 1, 0] rfl)
set_option maxRecDepth 100000 in
set_option maxHeartbeats 4000000 in
theorem uX2_way_7 {z : Nat} {N : Nat} {r : Int32} {T : zS} (X : zX D cy p s m meth c cX2_way 5 RX2 (some .int))  {S : zS} {x0 : Nat} {x2 : Int32} {x3 : Int32} {x4 : Int32} (h : rlX2_way_7 N S x0 x2 x3 x4 = some (r, T)) : zWt D cy A p l e { frames := 0, cells := 0, slots := 0, locals := 0 } s m args below meth c z 0 0 0 0 (zQ D cy A T z (some (.int r))) S 5 7 [(0, .ref x0), (2, .int x2), (3, .int x3), (4, .int x4)] [] := by
  unfold rlX2_way_7 at h
  refine zloop_ind (P := fun y => zWt D cy A p l e { frames := 0, cells := 0, slots := 0, locals := 0 } s m args below meth c z 0 0 0 0 (zQ D cy A T z (some (.int r))) y.1 5 7 [(0, .ref y.2.1), (2, .int y.2.2.1), (3, .int y.2.2.2.1), (4, .int y.2.2.2.2)] []) ?_ N (S, x0, x2, x3, x4) h
  intro K hK y hy
  obtain ⟨S, x0, x2, x3, x4⟩ := y
  exact wX2_way_7 X (fun S x0 x2 x3 x4 hq => hK (S, x0, x2, x3, x4) hq) hy
set_option maxRecDepth 100000 in
set_option maxHeartbeats 4000000 in
theorem wX2_way_0 {z : Nat} {N : Nat} {r : Int32} {T : zS} (X : zX D cy p s m meth c cX2_way 5 RX2 (some .int))  {S : zS} {x0 : Nat} {x1 : Int32} (h : rX2_way_0 N S x0 x1 = some (r, T)) : zWt D cy A p l e { frames := 0, cells := 0, slots := 0, locals := 0 } s m args below meth c z 0 0 0 0 (zQ D cy A T z (some (.int r))) S 5 0 [(0, .ref x0), (1, .int x1)] [] := by
  obtain ⟨hx, hb, hml, hown, hr, hlocks, hT⟩ := id X
  intro H locs ls hH hS hl
  unfold rX2_way_0 at h
  refine lv_iconst (v := (0 : Int32)) hx hb dX2_way_0 (by decide) ?_
  refine lv_istore_n (lv' := [(2, .int (0 : Int32)), (0, .ref x0), (1, .int x1)]) hx hb dX2_way_1 rfl hl (by decide) rfl (fun ls hl => ?_)
  refine lv_iload_n hx hb dX2_way_2 rfl (lv_at hl 2 rfl) ?_
  refine lv_istore_n (lv' := [(3, .int x1), (2, .int (0 : Int32)), (0, .ref x0), (1, .int x1)]) hx hb dX2_way_3 rfl hl (by decide) rfl (fun ls hl => ?_)
  refine lv_iconst (v := (0 : Int32)) hx hb dX2_way_4 (by decide) ?_
  refine lv_istore (lv' := [(4, .int (0 : Int32)), (3, .int x1), (2, .int (0 : Int32)), (0, .ref x0), (1, .int x1)]) hx hb dX2_way_5 hl (by decide) rfl (fun ls hl => ?_)
  exact uX2_way_7 X h _ _ _ hH hS (lv_sub hl [3, 2, 1, 0] rfl)
set_option maxRecDepth 100000 in
theorem kX2_way {N : Nat} {r : Int32} {T : zS} {S : zS} {z : Nat} {x0 : Nat} {x1 : Int32} (h : rX2_way N S x0 x1 = some (r, T)) : Met l yX2_way [.code yX2_way cX2_way 5 (some .int)] { frames := 0, cells := 0, slots := 0, locals := 0 } (zP D cy A S z [.ref x0, .int x1]) (zQ D cy A T z (some (.int r))) 0 0 A := by
  refine z_met (lv := [(0, .ref x0), (1, .int x1)]) (by decide) (Nat.le_of_ble_eq_true rfl) rfl ?_
  intro p e s m below meth c X H locs ls hH hS hl
  exact wX2_way_0 X h _ _ _ hH hS (lv_sub hl [0, 1] rfl)
set_option maxRecDepth 100000 in
set_option maxHeartbeats 4000000 in
theorem wX2_after_29 {z : Nat} {N : Nat} {r : Int32} {T : zS} (X : zX D cy p s m meth c cX2_after 5 RX2 (some .int))  {S : zS} {x3 : Int32} (h : rX2_after_29 N S x3 = some (r, T)) : zWt D cy A p l e { frames := 0, cells := 0, slots := 0, locals := 0 } s m args below meth c z 0 0 0 0 (zQ D cy A T z (some (.int r))) S 5 29 [(3, .int x3)] [] := by
  obtain ⟨hx, hb, hml, hown, hr, hlocks, hT⟩ := id X
  intro H locs ls hH hS hl
  unfold rX2_after_29 at h
  refine lv_iload_n hx hb dX2_after_29 rfl (lv_at hl 0 rfl) ?_
  exact z_iret X hH hS h dX2_after_30
set_option maxRecDepth 100000 in
set_option maxHeartbeats 4000000 in
theorem wX2_after_5 {z : Nat} {N : Nat} {r : Int32} {T : zS} (X : zX D cy p s m meth c cX2_after 5 RX2 (some .int)) {K5 : zS × Nat × Int32 × Int32 × Int32 → Option (Int32 × zS)} (hK5 : ∀ (S : zS) (x0 : Nat) (x2 : Int32) (x3 : Int32) (x4 : Int32), K5 (S, x0, x2, x3, x4) = some (r, T) → zWt D cy A p l e { frames := 0, cells := 0, slots := 0, locals := 0 } s m args below meth c z 0 0 0 0 (zQ D cy A T z (some (.int r))) S 5 5 [(0, .ref x0), (2, .int x2), (3, .int x3), (4, .int x4)] []) {S : zS} {x0 : Nat} {x2 : Int32} {x3 : Int32} {x4 : Int32} (h : rX2_after_5 N K5 S x0 x2 x3 x4 = some (r, T)) : zWt D cy A p l e { frames := 0, cells := 0, slots := 0, locals := 0 } s m args below meth c z 0 0 0 0 (zQ D cy A T z (some (.int r))) S 5 5 [(0, .ref x0), (2, .int x2), (3, .int x3), (4, .int x4)] [] := by
  obtain ⟨hx, hb, hml, hown, hr, hlocks, hT⟩ := id X
  intro H locs ls hH hS hl
  unfold rX2_after_5 at h
  refine lv_iload hx hb dX2_after_5 (lv_at hl 3 rfl) ?_
  refine lv_iload_n hx hb dX2_after_7 rfl (lv_at hl 1 rfl) ?_
  refine lv_icmp_ge (tgt := 29) hx hb dX2_after_8 (by decide) (fun c => ?_) (fun c => ?_)
  · have h := (if_pos c).symm.trans h
    exact wX2_after_29 X h _ _ _ hH hS (lv_sub hl [2] rfl)
  · have h := (if_neg c).symm.trans h
    refine lv_iload_n hx hb dX2_after_11 rfl (lv_at hl 2 rfl) ?_
    refine lv_iconst (v := (-1 : Int32)) hx hb dX2_after_12 (by decide) ?_
    refine lv_icmp_eq (tgt := 29) hx hb dX2_after_13 (by decide) (fun c => ?_) (fun c => ?_)
    · have h := (if_pos c).symm.trans h
      exact wX2_after_29 X h _ _ _ hH hS (lv_sub hl [2] rfl)
    · have h := (if_neg c).symm.trans h
      refine lv_aload_n hx hb dX2_after_16 rfl (lv_at hl 0 rfl) ?_
      obtain ⟨v1, ev1, h⟩ := zb_some h
      refine z_getr X flX2_9 hH ev1 dX2_after_17 ?_
      refine lv_iload_n hx hb dX2_after_20 rfl (lv_at hl 2 rfl) ?_
      obtain ⟨v2, ev2, h⟩ := zb_some h
      refine z_iald X hH ev2 dX2_after_21 ?_
      refine lv_istore_n (lv' := [(3, .int v2), (0, .ref x0), (2, .int x2), (4, .int x4)]) hx hb dX2_after_22 rfl hl (by decide) rfl (fun ls hl => ?_)
      refine lv_iinc (v := (x4 + (1 : Int32))) (lv' := [(4, .int (x4 + (1 : Int32))), (3, .int v2), (0, .ref x0), (2, .int x2)]) hx hb dX2_after_23 hl (k := 3) rfl (z_ii (by decide) _) (by decide) rfl (fun ls hl => ?_)
      refine lv_goto (tgt := 5) hx hb dX2_after_26 (by decide) ?_
      exact hK5 _ _ _ _ _ h _ _ _ hH hS (lv_sub hl [2, 3, 1, 0] rfl)
set_option maxRecDepth 100000 in
set_option maxHeartbeats 4000000 in
theorem uX2_after_5 {z : Nat} {N : Nat} {r : Int32} {T : zS} (X : zX D cy p s m meth c cX2_after 5 RX2 (some .int))  {S : zS} {x0 : Nat} {x2 : Int32} {x3 : Int32} {x4 : Int32} (h : rlX2_after_5 N S x0 x2 x3 x4 = some (r, T)) : zWt D cy A p l e { frames := 0, cells := 0, slots := 0, locals := 0 } s m args below meth c z 0 0 0 0 (zQ D cy A T z (some (.int r))) S 5 5 [(0, .ref x0), (2, .int x2), (3, .int x3), (4, .int x4)] [] := by
  unfold rlX2_after_5 at h
  refine zloop_ind (P := fun y => zWt D cy A p l e { frames := 0, cells := 0, slots := 0, locals := 0 } s m args below meth c z 0 0 0 0 (zQ D cy A T z (some (.int r))) y.1 5 5 [(0, .ref y.2.1), (2, .int y.2.2.1), (3, .int y.2.2.2.1), (4, .int y.2.2.2.2)] []) ?_ N (S, x0, x2, x3, x4) h
  intro K hK y hy
  obtain ⟨S, x0, x2, x3, x4⟩ := y
  exact wX2_after_5 X (fun S x0 x2 x3 x4 hq => hK (S, x0, x2, x3, x4) hq) hy
set_option maxRecDepth 100000 in
set_option maxHeartbeats 4000000 in
theorem wX2_after_0 {z : Nat} {N : Nat} {r : Int32} {T : zS} (X : zX D cy p s m meth c cX2_after 5 RX2 (some .int))  {S : zS} {x0 : Nat} {x1 : Int32} {x2 : Int32} (h : rX2_after_0 N S x0 x1 x2 = some (r, T)) : zWt D cy A p l e { frames := 0, cells := 0, slots := 0, locals := 0 } s m args below meth c z 0 0 0 0 (zQ D cy A T z (some (.int r))) S 5 0 [(0, .ref x0), (1, .int x1), (2, .int x2)] [] := by
  obtain ⟨hx, hb, hml, hown, hr, hlocks, hT⟩ := id X
  intro H locs ls hH hS hl
  unfold rX2_after_0 at h
  refine lv_iload_n hx hb dX2_after_0 rfl (lv_at hl 1 rfl) ?_
  refine lv_istore_n (lv' := [(3, .int x1), (0, .ref x0), (1, .int x1), (2, .int x2)]) hx hb dX2_after_1 rfl hl (by decide) rfl (fun ls hl => ?_)
  refine lv_iconst (v := (0 : Int32)) hx hb dX2_after_2 (by decide) ?_
  refine lv_istore (lv' := [(4, .int (0 : Int32)), (3, .int x1), (0, .ref x0), (1, .int x1), (2, .int x2)]) hx hb dX2_after_3 hl (by decide) rfl (fun ls hl => ?_)
  exact uX2_after_5 X h _ _ _ hH hS (lv_sub hl [2, 4, 1, 0] rfl)
set_option maxRecDepth 100000 in
theorem kX2_after {N : Nat} {r : Int32} {T : zS} {S : zS} {z : Nat} {x0 : Nat} {x1 : Int32} {x2 : Int32} (h : rX2_after N S x0 x1 x2 = some (r, T)) : Met l yX2_after [.code yX2_after cX2_after 5 (some .int)] { frames := 0, cells := 0, slots := 0, locals := 0 } (zP D cy A S z [.ref x0, .int x1, .int x2]) (zQ D cy A T z (some (.int r))) 0 0 A := by
  refine z_met (lv := [(0, .ref x0), (1, .int x1), (2, .int x2)]) (by decide) (Nat.le_of_ble_eq_true rfl) rfl ?_
  intro p e s m below meth c X H locs ls hH hS hl
  exact wX2_after_0 X h _ _ _ hH hS (lv_sub hl [0, 1, 2] rfl)
set_option maxRecDepth 100000 in
set_option maxHeartbeats 4000000 in
theorem wX2_ringStart_0 {z : Nat} {N : Nat} {r : Int32} {T : zS} (X : zX D cy p s m meth c cX2_ringStart 2 RX2 (some .int))  {S : zS} {x0 : Nat} {x1 : Int32} (h : rX2_ringStart_0 N S x0 x1 = some (r, T)) : zWt D cy A p l e { frames := 1, cells := 0, slots := 0, locals := 24 } s m args below meth c z 0 0 0 0 (zQ D cy A T z (some (.int r))) S 2 0 [(0, .ref x0), (1, .int x1)] [] := by
  obtain ⟨hx, hb, hml, hown, hr, hlocks, hT⟩ := id X
  intro H locs ls hH hS hl
  unfold rX2_ringStart_0 at h
  refine lv_aload_n hx hb dX2_ringStart_0 rfl (lv_at hl 0 rfl) ?_
  refine lv_iload_n hx hb dX2_ringStart_1 rfl (lv_at hl 1 rfl) ?_
  refine lv_aload_n hx hb dX2_ringStart_2 rfl (lv_at hl 0 rfl) ?_
  refine lv_iload_n hx hb dX2_ringStart_3 rfl (lv_at hl 1 rfl) ?_
  obtain ⟨u1, eu1, h⟩ := zb_some h
  obtain ⟨v3, S2, eS2, h⟩ := zb2_some h
  refine z_cV (As := [.int x1]) X hl hH hS mlX2_24 eu1 (kX2_way eS2) rfl rfl (Nat.le_of_ble_eq_true rfl) ⟨rfl, rfl, Nat.le_of_ble_eq_true rfl, Nat.le_of_ble_eq_true rfl⟩ ⟨Nat.le_refl _, Nat.le_refl _⟩ dX2_ringStart_4 (fun H locs hH hS => ?_)
  obtain ⟨v5, S4, eS4, h⟩ := zb2_some h
  refine z_cS (As := [.int v3]) X hl hH hS mlX2_28 (kJ6_bitCount_0f7a4 eS4) rfl rfl (Nat.le_of_ble_eq_true rfl) ⟨rfl, rfl, Nat.le_of_ble_eq_true rfl, Nat.le_of_ble_eq_true rfl⟩ ⟨Nat.le_refl _, Nat.le_refl _⟩ dX2_ringStart_7 (fun H locs hH hS => ?_)
  obtain ⟨u6, eu6, h⟩ := zb_some h
  obtain ⟨v8, S7, eS7, h⟩ := zb2_some h
  refine z_cV (As := [.int x1, .int v5]) X hl hH hS mlX2_33 eu6 (kX2_after eS7) rfl rfl (Nat.le_of_ble_eq_true rfl) ⟨rfl, rfl, Nat.le_of_ble_eq_true rfl, Nat.le_of_ble_eq_true rfl⟩ ⟨Nat.le_refl _, Nat.le_refl _⟩ dX2_ringStart_10 (fun H locs hH hS => ?_)
  exact z_iret X hH hS h dX2_ringStart_13
set_option maxRecDepth 100000 in
theorem kX2_ringStart {N : Nat} {r : Int32} {T : zS} {S : zS} {z : Nat} {x0 : Nat} {x1 : Int32} (h : rX2_ringStart N S x0 x1 = some (r, T)) : Met l yX2_ringStart [.code yX2_ringStart cX2_ringStart 2 (some .int)] { frames := 1, cells := 0, slots := 0, locals := 24 } (zP D cy A S z [.ref x0, .int x1]) (zQ D cy A T z (some (.int r))) 0 0 A := by
  refine z_met (lv := [(0, .ref x0), (1, .int x1)]) (by decide) (Nat.le_of_ble_eq_true rfl) rfl ?_
  intro p e s m below meth c X H locs ls hH hS hl
  exact wX2_ringStart_0 X h _ _ _ hH hS (lv_sub hl [0, 1] rfl)
set_option maxRecDepth 100000 in
set_option maxHeartbeats 4000000 in
theorem wX2_textsOn_39 {z : Nat} {N : Nat} {r : Int32} {T : zS} (X : zX D cy p s m meth c cX2_textsOn 4 RX2 (some .int)) {K4 : zS × Nat × Int32 × Int32 × Int32 → Option (Int32 × zS)} (hK4 : ∀ (S : zS) (x0 : Nat) (x1 : Int32) (x2 : Int32) (x3 : Int32), K4 (S, x0, x1, x2, x3) = some (r, T) → zWt D cy A p l e { frames := 0, cells := 0, slots := 0, locals := 0 } s m args below meth c z 0 0 0 0 (zQ D cy A T z (some (.int r))) S 4 4 [(0, .ref x0), (1, .int x1), (2, .int x2), (3, .int x3)] []) {S : zS} {x0 : Nat} {x1 : Int32} {x2 : Int32} {x3 : Int32} (h : rX2_textsOn_39 N K4 S x0 x1 x2 x3 = some (r, T)) : zWt D cy A p l e { frames := 0, cells := 0, slots := 0, locals := 0 } s m args below meth c z 0 0 0 0 (zQ D cy A T z (some (.int r))) S 4 39 [(0, .ref x0), (1, .int x1), (2, .int x2), (3, .int x3)] [] := by
  obtain ⟨hx, hb, hml, hown, hr, hlocks, hT⟩ := id X
  intro H locs ls hH hS hl
  unfold rX2_textsOn_39 at h
  refine lv_iinc (v := (x3 + (1 : Int32))) (lv' := [(3, .int (x3 + (1 : Int32))), (0, .ref x0), (1, .int x1), (2, .int x2)]) hx hb dX2_textsOn_39 hl (k := 3) rfl (z_ii (by decide) _) (by decide) rfl (fun ls hl => ?_)
  refine lv_goto (tgt := 4) hx hb dX2_textsOn_42 (by decide) ?_
  exact hK4 _ _ _ _ _ h _ _ _ hH hS (lv_sub hl [1, 2, 3, 0] rfl)
set_option maxRecDepth 100000 in
set_option maxHeartbeats 4000000 in
theorem wX2_textsOn_4 {z : Nat} {N : Nat} {r : Int32} {T : zS} (X : zX D cy p s m meth c cX2_textsOn 4 RX2 (some .int)) {K4 : zS × Nat × Int32 × Int32 × Int32 → Option (Int32 × zS)} (hK4 : ∀ (S : zS) (x0 : Nat) (x1 : Int32) (x2 : Int32) (x3 : Int32), K4 (S, x0, x1, x2, x3) = some (r, T) → zWt D cy A p l e { frames := 0, cells := 0, slots := 0, locals := 0 } s m args below meth c z 0 0 0 0 (zQ D cy A T z (some (.int r))) S 4 4 [(0, .ref x0), (1, .int x1), (2, .int x2), (3, .int x3)] []) {S : zS} {x0 : Nat} {x1 : Int32} {x2 : Int32} {x3 : Int32} (h : rX2_textsOn_4 N K4 S x0 x1 x2 x3 = some (r, T)) : zWt D cy A p l e { frames := 0, cells := 0, slots := 0, locals := 0 } s m args below meth c z 0 0 0 0 (zQ D cy A T z (some (.int r))) S 4 4 [(0, .ref x0), (1, .int x1), (2, .int x2), (3, .int x3)] [] := by
  obtain ⟨hx, hb, hml, hown, hr, hlocks, hT⟩ := id X
  intro H locs ls hH hS hl
  unfold rX2_textsOn_4 at h
  refine lv_iload_n hx hb dX2_textsOn_4 rfl (lv_at hl 3 rfl) ?_
  refine lv_bipush (v := (30 : Int32)) hx hb dX2_textsOn_5 (by decide) ?_
  refine lv_icmp_ge (tgt := 45) hx hb dX2_textsOn_7 (by decide) (fun c => ?_) (fun c => ?_)
  · have h := (if_pos c).symm.trans h
    refine lv_iload_n hx hb dX2_textsOn_45 rfl (lv_at hl 2 rfl) ?_
    exact z_iret X hH hS h dX2_textsOn_46
  · have h := (if_neg c).symm.trans h
    refine lv_iload_n hx hb dX2_textsOn_10 rfl (lv_at hl 1 rfl) ?_
    refine lv_iload_n hx hb dX2_textsOn_11 rfl (lv_at hl 3 rfl) ?_
    refine lv_iushr hx hb dX2_textsOn_12 (zush_eq _ _) ?_
    refine lv_iconst (v := (1 : Int32)) hx hb dX2_textsOn_13 (by decide) ?_
    refine lv_iand hx hb dX2_textsOn_14 ?_
    refine lv_if_eq (tgt := 39) hx hb dX2_textsOn_15 (by decide) (fun c => ?_) (fun c => ?_)
    · have h := (if_pos c).symm.trans h
      exact wX2_textsOn_39 X hK4 h _ _ _ hH hS (lv_sub hl [0, 1, 2, 3] rfl)
    · have h := (if_neg c).symm.trans h
      refine lv_aload_n hx hb dX2_textsOn_18 rfl (lv_at hl 0 rfl) ?_
      obtain ⟨v1, ev1, h⟩ := zb_some h
      refine z_getr X flX2_9 hH ev1 dX2_textsOn_19 ?_
      refine lv_iload_n hx hb dX2_textsOn_22 rfl (lv_at hl 3 rfl) ?_
      obtain ⟨v2, ev2, h⟩ := zb_some h
      refine z_iald X hH ev2 dX2_textsOn_23 ?_
      refine lv_iconst (v := (-1 : Int32)) hx hb dX2_textsOn_24 (by decide) ?_
      refine lv_icmp_eq (tgt := 39) hx hb dX2_textsOn_25 (by decide) (fun c => ?_) (fun c => ?_)
      · have h := (if_pos c).symm.trans h
        exact wX2_textsOn_39 X hK4 h _ _ _ hH hS (lv_sub hl [0, 1, 2, 3] rfl)
      · have h := (if_neg c).symm.trans h
        refine lv_iload_n hx hb dX2_textsOn_28 rfl (lv_at hl 2 rfl) ?_
        refine lv_iconst (v := (1 : Int32)) hx hb dX2_textsOn_29 (by decide) ?_
        refine lv_aload_n hx hb dX2_textsOn_30 rfl (lv_at hl 0 rfl) ?_
        obtain ⟨v3, ev3, h⟩ := zb_some h
        refine z_getr X flX2_15 hH ev3 dX2_textsOn_31 ?_
        refine lv_iload_n hx hb dX2_textsOn_34 rfl (lv_at hl 3 rfl) ?_
        obtain ⟨v4, ev4, h⟩ := zb_some h
        refine z_iald X hH ev4 dX2_textsOn_35 ?_
        refine lv_ishl hx hb dX2_textsOn_36 ?_
        refine lv_ior hx hb dX2_textsOn_37 ?_
        refine lv_topi (fun v5 ev5 => ?_)
        have h := zlet_at ev5 h
        refine lv_istore_n (lv' := [(2, .int v5), (0, .ref x0), (1, .int x1), (3, .int x3)]) hx hb dX2_textsOn_38 rfl hl (by decide) rfl (fun ls hl => ?_)
        exact wX2_textsOn_39 X hK4 h _ _ _ hH hS (lv_sub hl [1, 2, 0, 3] rfl)
set_option maxRecDepth 100000 in
set_option maxHeartbeats 4000000 in
theorem uX2_textsOn_4 {z : Nat} {N : Nat} {r : Int32} {T : zS} (X : zX D cy p s m meth c cX2_textsOn 4 RX2 (some .int))  {S : zS} {x0 : Nat} {x1 : Int32} {x2 : Int32} {x3 : Int32} (h : rlX2_textsOn_4 N S x0 x1 x2 x3 = some (r, T)) : zWt D cy A p l e { frames := 0, cells := 0, slots := 0, locals := 0 } s m args below meth c z 0 0 0 0 (zQ D cy A T z (some (.int r))) S 4 4 [(0, .ref x0), (1, .int x1), (2, .int x2), (3, .int x3)] [] := by
  unfold rlX2_textsOn_4 at h
  refine zloop_ind (P := fun y => zWt D cy A p l e { frames := 0, cells := 0, slots := 0, locals := 0 } s m args below meth c z 0 0 0 0 (zQ D cy A T z (some (.int r))) y.1 4 4 [(0, .ref y.2.1), (1, .int y.2.2.1), (2, .int y.2.2.2.1), (3, .int y.2.2.2.2)] []) ?_ N (S, x0, x1, x2, x3) h
  intro K hK y hy
  obtain ⟨S, x0, x1, x2, x3⟩ := y
  exact wX2_textsOn_4 X (fun S x0 x1 x2 x3 hq => hK (S, x0, x1, x2, x3) hq) hy
set_option maxRecDepth 100000 in
set_option maxHeartbeats 4000000 in
theorem wX2_textsOn_0 {z : Nat} {N : Nat} {r : Int32} {T : zS} (X : zX D cy p s m meth c cX2_textsOn 4 RX2 (some .int))  {S : zS} {x0 : Nat} {x1 : Int32} (h : rX2_textsOn_0 N S x0 x1 = some (r, T)) : zWt D cy A p l e { frames := 0, cells := 0, slots := 0, locals := 0 } s m args below meth c z 0 0 0 0 (zQ D cy A T z (some (.int r))) S 4 0 [(0, .ref x0), (1, .int x1)] [] := by
  obtain ⟨hx, hb, hml, hown, hr, hlocks, hT⟩ := id X
  intro H locs ls hH hS hl
  unfold rX2_textsOn_0 at h
  refine lv_iconst (v := (0 : Int32)) hx hb dX2_textsOn_0 (by decide) ?_
  refine lv_istore_n (lv' := [(2, .int (0 : Int32)), (0, .ref x0), (1, .int x1)]) hx hb dX2_textsOn_1 rfl hl (by decide) rfl (fun ls hl => ?_)
  refine lv_iconst (v := (0 : Int32)) hx hb dX2_textsOn_2 (by decide) ?_
  refine lv_istore_n (lv' := [(3, .int (0 : Int32)), (2, .int (0 : Int32)), (0, .ref x0), (1, .int x1)]) hx hb dX2_textsOn_3 rfl hl (by decide) rfl (fun ls hl => ?_)
  exact uX2_textsOn_4 X h _ _ _ hH hS (lv_sub hl [2, 3, 1, 0] rfl)
set_option maxRecDepth 100000 in
theorem kX2_textsOn {N : Nat} {r : Int32} {T : zS} {S : zS} {z : Nat} {x0 : Nat} {x1 : Int32} (h : rX2_textsOn N S x0 x1 = some (r, T)) : Met l yX2_textsOn [.code yX2_textsOn cX2_textsOn 4 (some .int)] { frames := 0, cells := 0, slots := 0, locals := 0 } (zP D cy A S z [.ref x0, .int x1]) (zQ D cy A T z (some (.int r))) 0 0 A := by
  refine z_met (lv := [(0, .ref x0), (1, .int x1)]) (by decide) (Nat.le_of_ble_eq_true rfl) rfl ?_
  intro p e s m below meth c X H locs ls hH hS hl
  exact wX2_textsOn_0 X h _ _ _ hH hS (lv_sub hl [0, 1] rfl)
set_option maxRecDepth 100000 in
set_option maxHeartbeats 4000000 in
theorem wX2_seeds_26 {z : Nat} {N : Nat} {r : Int32} {T : zS} (X : zX D cy p s m meth c cX2_seeds 3 RX2 (some .int)) {K4 : zS × Nat × Int32 × Int32 → Option (Int32 × zS)} (hK4 : ∀ (S : zS) (x0 : Nat) (x1 : Int32) (x2 : Int32), K4 (S, x0, x1, x2) = some (r, T) → zWt D cy A p l e { frames := 0, cells := 0, slots := 0, locals := 0 } s m args below meth c z 0 0 0 0 (zQ D cy A T z (some (.int r))) S 3 4 [(0, .ref x0), (1, .int x1), (2, .int x2)] []) {S : zS} {x0 : Nat} {x2 : Int32} {y0 : Int32} {y1 : Int32} (h : rX2_seeds_26 N K4 S x0 x2 y0 y1 = some (r, T)) : zWt D cy A p l e { frames := 0, cells := 0, slots := 0, locals := 0 } s m args below meth c z 0 0 0 0 (zQ D cy A T z (some (.int r))) S 3 26 [(0, .ref x0), (2, .int x2)] [.int y1, .int y0] := by
  obtain ⟨hx, hb, hml, hown, hr, hlocks, hT⟩ := id X
  intro H locs ls hH hS hl
  unfold rX2_seeds_26 at h
  refine lv_iadd hx hb dX2_seeds_26 ?_
  refine lv_istore_n (lv' := [(1, .int (y0 + y1)), (0, .ref x0), (2, .int x2)]) hx hb dX2_seeds_27 rfl hl (by decide) rfl (fun ls hl => ?_)
  refine lv_iinc (v := (x2 + (1 : Int32))) (lv' := [(2, .int (x2 + (1 : Int32))), (1, .int (y0 + y1)), (0, .ref x0)]) hx hb dX2_seeds_28 hl (k := 2) rfl (z_ii (by decide) _) (by decide) rfl (fun ls hl => ?_)
  refine lv_goto (tgt := 4) hx hb dX2_seeds_31 (by decide) ?_
  exact hK4 _ _ _ _ h _ _ _ hH hS (lv_sub hl [2, 1, 0] rfl)
set_option maxRecDepth 100000 in
set_option maxHeartbeats 4000000 in
theorem wX2_seeds_4 {z : Nat} {N : Nat} {r : Int32} {T : zS} (X : zX D cy p s m meth c cX2_seeds 3 RX2 (some .int)) {K4 : zS × Nat × Int32 × Int32 → Option (Int32 × zS)} (hK4 : ∀ (S : zS) (x0 : Nat) (x1 : Int32) (x2 : Int32), K4 (S, x0, x1, x2) = some (r, T) → zWt D cy A p l e { frames := 0, cells := 0, slots := 0, locals := 0 } s m args below meth c z 0 0 0 0 (zQ D cy A T z (some (.int r))) S 3 4 [(0, .ref x0), (1, .int x1), (2, .int x2)] []) {S : zS} {x0 : Nat} {x1 : Int32} {x2 : Int32} (h : rX2_seeds_4 N K4 S x0 x1 x2 = some (r, T)) : zWt D cy A p l e { frames := 0, cells := 0, slots := 0, locals := 0 } s m args below meth c z 0 0 0 0 (zQ D cy A T z (some (.int r))) S 3 4 [(0, .ref x0), (1, .int x1), (2, .int x2)] [] := by
  obtain ⟨hx, hb, hml, hown, hr, hlocks, hT⟩ := id X
  intro H locs ls hH hS hl
  unfold rX2_seeds_4 at h
  refine lv_iload_n hx hb dX2_seeds_4 rfl (lv_at hl 2 rfl) ?_
  refine lv_bipush (v := (30 : Int32)) hx hb dX2_seeds_5 (by decide) ?_
  refine lv_icmp_ge (tgt := 34) hx hb dX2_seeds_7 (by decide) (fun c => ?_) (fun c => ?_)
  · have h := (if_pos c).symm.trans h
    refine lv_iload_n hx hb dX2_seeds_34 rfl (lv_at hl 1 rfl) ?_
    exact z_iret X hH hS h dX2_seeds_35
  · have h := (if_neg c).symm.trans h
    refine lv_iload_n hx hb dX2_seeds_10 rfl (lv_at hl 1 rfl) ?_
    refine lv_aload_n hx hb dX2_seeds_11 rfl (lv_at hl 0 rfl) ?_
    obtain ⟨v1, ev1, h⟩ := zb_some h
    refine z_getr X flX2_9 hH ev1 dX2_seeds_12 ?_
    refine lv_iload_n hx hb dX2_seeds_15 rfl (lv_at hl 2 rfl) ?_
    obtain ⟨v2, ev2, h⟩ := zb_some h
    refine z_iald X hH ev2 dX2_seeds_16 ?_
    refine lv_iconst (v := (-1 : Int32)) hx hb dX2_seeds_17 (by decide) ?_
    refine lv_icmp_ne (tgt := 25) hx hb dX2_seeds_18 (by decide) (fun c => ?_) (fun c => ?_)
    · have h := (if_neg c).symm.trans h
      refine lv_iconst (v := (0 : Int32)) hx hb dX2_seeds_25 (by decide) ?_
      exact wX2_seeds_26 X hK4 h _ _ _ hH hS (lv_sub hl [0, 2] rfl)
    · have h := (if_pos c).symm.trans h
      refine lv_iconst (v := (1 : Int32)) hx hb dX2_seeds_21 (by decide) ?_
      refine lv_goto (tgt := 26) hx hb dX2_seeds_22 (by decide) ?_
      exact wX2_seeds_26 X hK4 h _ _ _ hH hS (lv_sub hl [0, 2] rfl)
set_option maxRecDepth 100000 in
set_option maxHeartbeats 4000000 in
theorem uX2_seeds_4 {z : Nat} {N : Nat} {r : Int32} {T : zS} (X : zX D cy p s m meth c cX2_seeds 3 RX2 (some .int))  {S : zS} {x0 : Nat} {x1 : Int32} {x2 : Int32} (h : rlX2_seeds_4 N S x0 x1 x2 = some (r, T)) : zWt D cy A p l e { frames := 0, cells := 0, slots := 0, locals := 0 } s m args below meth c z 0 0 0 0 (zQ D cy A T z (some (.int r))) S 3 4 [(0, .ref x0), (1, .int x1), (2, .int x2)] [] := by
  unfold rlX2_seeds_4 at h
  refine zloop_ind (P := fun y => zWt D cy A p l e { frames := 0, cells := 0, slots := 0, locals := 0 } s m args below meth c z 0 0 0 0 (zQ D cy A T z (some (.int r))) y.1 3 4 [(0, .ref y.2.1), (1, .int y.2.2.1), (2, .int y.2.2.2)] []) ?_ N (S, x0, x1, x2) h
  intro K hK y hy
  obtain ⟨S, x0, x1, x2⟩ := y
  exact wX2_seeds_4 X (fun S x0 x1 x2 hq => hK (S, x0, x1, x2) hq) hy
set_option maxRecDepth 100000 in
set_option maxHeartbeats 4000000 in
theorem wX2_seeds_0 {z : Nat} {N : Nat} {r : Int32} {T : zS} (X : zX D cy p s m meth c cX2_seeds 3 RX2 (some .int))  {S : zS} {x0 : Nat} (h : rX2_seeds_0 N S x0 = some (r, T)) : zWt D cy A p l e { frames := 0, cells := 0, slots := 0, locals := 0 } s m args below meth c z 0 0 0 0 (zQ D cy A T z (some (.int r))) S 3 0 [(0, .ref x0)] [] := by
  obtain ⟨hx, hb, hml, hown, hr, hlocks, hT⟩ := id X
  intro H locs ls hH hS hl
  unfold rX2_seeds_0 at h
  refine lv_iconst (v := (0 : Int32)) hx hb dX2_seeds_0 (by decide) ?_
  refine lv_istore_n (lv' := [(1, .int (0 : Int32)), (0, .ref x0)]) hx hb dX2_seeds_1 rfl hl (by decide) rfl (fun ls hl => ?_)
  refine lv_iconst (v := (0 : Int32)) hx hb dX2_seeds_2 (by decide) ?_
  refine lv_istore_n (lv' := [(2, .int (0 : Int32)), (1, .int (0 : Int32)), (0, .ref x0)]) hx hb dX2_seeds_3 rfl hl (by decide) rfl (fun ls hl => ?_)
  exact uX2_seeds_4 X h _ _ _ hH hS (lv_sub hl [2, 1, 0] rfl)
set_option maxRecDepth 100000 in
theorem kX2_seeds {N : Nat} {r : Int32} {T : zS} {S : zS} {z : Nat} {x0 : Nat} (h : rX2_seeds N S x0 = some (r, T)) : Met l yX2_seeds [.code yX2_seeds cX2_seeds 3 (some .int)] { frames := 0, cells := 0, slots := 0, locals := 0 } (zP D cy A S z [.ref x0]) (zQ D cy A T z (some (.int r))) 0 0 A := by
  refine z_met (lv := [(0, .ref x0)]) (by decide) (Nat.le_of_ble_eq_true rfl) rfl ?_
  intro p e s m below meth c X H locs ls hH hS hl
  exact wX2_seeds_0 X h _ _ _ hH hS (lv_sub hl [0] rfl)
set_option maxRecDepth 100000 in
set_option maxHeartbeats 4000000 in
theorem wX3_doOneMore_47 {z : Nat} {N : Nat} {T : zS} (X : zX D cy p s m meth c cX3_doOneMore 4 RX3 none) {K2 : zS × Nat × Int32 × Int32 × Int32 → Option (zS)} (hK2 : ∀ (S : zS) (x0 : Nat) (x1 : Int32) (x2 : Int32) (x3 : Int32), K2 (S, x0, x1, x2, x3) = some T → zWt D cy A p l e { frames := 0, cells := 0, slots := 0, locals := 0 } s m args below meth c z 0 0 0 0 (zQ D cy A T z none) S 4 2 [(0, .ref x0), (1, .int x1), (2, .int x2), (3, .int x3)] []) {S : zS} {x0 : Nat} {x1 : Int32} {x2 : Int32} {x3 : Int32} (h : rX3_doOneMore_47 N K2 S x0 x1 x2 x3 = some T) : zWt D cy A p l e { frames := 0, cells := 0, slots := 0, locals := 0 } s m args below meth c z 0 0 0 0 (zQ D cy A T z none) S 4 47 [(0, .ref x0), (1, .int x1), (2, .int x2), (3, .int x3)] [] := by
  obtain ⟨hx, hb, hml, hown, hr, hlocks, hT⟩ := id X
  intro H locs ls hH hS hl
  unfold rX3_doOneMore_47 at h
  refine lv_iinc (v := (x3 + (1 : Int32))) (lv' := [(3, .int (x3 + (1 : Int32))), (0, .ref x0), (1, .int x1), (2, .int x2)]) hx hb dX3_doOneMore_47 hl (k := 3) rfl (z_ii (by decide) _) (by decide) rfl (fun ls hl => ?_)
  refine lv_goto (tgt := 2) hx hb dX3_doOneMore_50 (by decide) ?_
  exact hK2 _ _ _ _ _ h _ _ _ hH hS (lv_sub hl [1, 2, 3, 0] rfl)
set_option maxRecDepth 100000 in
set_option maxHeartbeats 4000000 in
theorem wX3_doOneMore_2 {z : Nat} {N : Nat} {T : zS} (X : zX D cy p s m meth c cX3_doOneMore 4 RX3 none) {K2 : zS × Nat × Int32 × Int32 × Int32 → Option (zS)} (hK2 : ∀ (S : zS) (x0 : Nat) (x1 : Int32) (x2 : Int32) (x3 : Int32), K2 (S, x0, x1, x2, x3) = some T → zWt D cy A p l e { frames := 0, cells := 0, slots := 0, locals := 0 } s m args below meth c z 0 0 0 0 (zQ D cy A T z none) S 4 2 [(0, .ref x0), (1, .int x1), (2, .int x2), (3, .int x3)] []) {S : zS} {x0 : Nat} {x1 : Int32} {x2 : Int32} {x3 : Int32} (h : rX3_doOneMore_2 N K2 S x0 x1 x2 x3 = some T) : zWt D cy A p l e { frames := 0, cells := 0, slots := 0, locals := 0 } s m args below meth c z 0 0 0 0 (zQ D cy A T z none) S 4 2 [(0, .ref x0), (1, .int x1), (2, .int x2), (3, .int x3)] [] := by
  obtain ⟨hx, hb, hml, hown, hr, hlocks, hT⟩ := id X
  intro H locs ls hH hS hl
  unfold rX3_doOneMore_2 at h
  refine lv_iload_n hx hb dX3_doOneMore_2 rfl (lv_at hl 3 rfl) ?_
  refine lv_iload_n hx hb dX3_doOneMore_3 rfl (lv_at hl 2 rfl) ?_
  refine lv_icmp_ge (tgt := 53) hx hb dX3_doOneMore_4 (by decide) (fun c => ?_) (fun c => ?_)
  · have h := (if_pos c).symm.trans h
    exact z_vret X hH hS h dX3_doOneMore_53
  · have h := (if_neg c).symm.trans h
    refine lv_iload_n hx hb dX3_doOneMore_7 rfl (lv_at hl 1 rfl) ?_
    refine lv_iload_n hx hb dX3_doOneMore_8 rfl (lv_at hl 3 rfl) ?_
    refine lv_iushr hx hb dX3_doOneMore_9 (zush_eq _ _) ?_
    refine lv_iconst (v := (1 : Int32)) hx hb dX3_doOneMore_10 (by decide) ?_
    refine lv_iand hx hb dX3_doOneMore_11 ?_
    refine lv_if_ne (tgt := 47) hx hb dX3_doOneMore_12 (by decide) (fun c => ?_) (fun c => ?_)
    · have h := (if_neg c).symm.trans h
      exact wX3_doOneMore_47 X hK2 h _ _ _ hH hS (lv_sub hl [0, 1, 2, 3] rfl)
    · have h := (if_pos c).symm.trans h
      refine lv_aload_n hx hb dX3_doOneMore_15 rfl (lv_at hl 0 rfl) ?_
      obtain ⟨v1, ev1, h⟩ := zb_some h
      refine z_getr X flX3_15 hH ev1 dX3_doOneMore_16 ?_
      refine lv_iload_n hx hb dX3_doOneMore_19 rfl (lv_at hl 3 rfl) ?_
      obtain ⟨v2, ev2, h⟩ := zb_some h
      refine z_iald X hH ev2 dX3_doOneMore_20 ?_
      refine lv_iload_n hx hb dX3_doOneMore_21 rfl (lv_at hl 1 rfl) ?_
      refine lv_iconst (v := (-1 : Int32)) hx hb dX3_doOneMore_22 (by decide) ?_
      refine lv_ixor hx hb dX3_doOneMore_23 ?_
      refine lv_iand hx hb dX3_doOneMore_24 ?_
      refine lv_if_ne (tgt := 47) hx hb dX3_doOneMore_25 (by decide) (fun c => ?_) (fun c => ?_)
      · have h := (if_neg c).symm.trans h
        exact wX3_doOneMore_47 X hK2 h _ _ _ hH hS (lv_sub hl [0, 1, 2, 3] rfl)
      · have h := (if_pos c).symm.trans h
        refine lv_aload_n hx hb dX3_doOneMore_28 rfl (lv_at hl 0 rfl) ?_
        obtain ⟨v3, ev3, h⟩ := zb_some h
        refine z_getr X flX3_9 hH ev3 dX3_doOneMore_29 ?_
        refine lv_iload_n hx hb dX3_doOneMore_32 rfl (lv_at hl 1 rfl) ?_
        refine lv_iconst (v := (1 : Int32)) hx hb dX3_doOneMore_33 (by decide) ?_
        refine lv_iload_n hx hb dX3_doOneMore_34 rfl (lv_at hl 3 rfl) ?_
        refine lv_ishl hx hb dX3_doOneMore_35 ?_
        refine lv_ior hx hb dX3_doOneMore_36 ?_
        refine lv_dup2_11 hx hb dX3_doOneMore_37 rfl rfl ?_
        obtain ⟨v4, ev4, h⟩ := zb_some h
        refine z_lald X hH ev4 dX3_doOneMore_38 ?_
        refine lv_aload_n hx hb dX3_doOneMore_39 rfl (lv_at hl 0 rfl) ?_
        obtain ⟨v5, ev5, h⟩ := zb_some h
        refine z_getr X flX3_9 hH ev5 dX3_doOneMore_40 ?_
        refine lv_iload_n hx hb dX3_doOneMore_43 rfl (lv_at hl 1 rfl) ?_
        obtain ⟨v6, ev6, h⟩ := zb_some h
        refine z_lald X hH ev6 dX3_doOneMore_44 ?_
        refine lv_ladd hx hb dX3_doOneMore_45 ?_
        obtain ⟨S7, eS7, h⟩ := zb_some h
        refine z_last X hH hS eS7 dX3_doOneMore_46 (fun H locs hH hS => ?_)
        exact wX3_doOneMore_47 X hK2 h _ _ _ hH hS (lv_sub hl [0, 1, 2, 3] rfl)
set_option maxRecDepth 100000 in
set_option maxHeartbeats 4000000 in
theorem uX3_doOneMore_2 {z : Nat} {N : Nat} {T : zS} (X : zX D cy p s m meth c cX3_doOneMore 4 RX3 none)  {S : zS} {x0 : Nat} {x1 : Int32} {x2 : Int32} {x3 : Int32} (h : rlX3_doOneMore_2 N S x0 x1 x2 x3 = some T) : zWt D cy A p l e { frames := 0, cells := 0, slots := 0, locals := 0 } s m args below meth c z 0 0 0 0 (zQ D cy A T z none) S 4 2 [(0, .ref x0), (1, .int x1), (2, .int x2), (3, .int x3)] [] := by
  unfold rlX3_doOneMore_2 at h
  refine zloop_ind (P := fun y => zWt D cy A p l e { frames := 0, cells := 0, slots := 0, locals := 0 } s m args below meth c z 0 0 0 0 (zQ D cy A T z none) y.1 4 2 [(0, .ref y.2.1), (1, .int y.2.2.1), (2, .int y.2.2.2.1), (3, .int y.2.2.2.2)] []) ?_ N (S, x0, x1, x2, x3) h
  intro K hK y hy
  obtain ⟨S, x0, x1, x2, x3⟩ := y
  exact wX3_doOneMore_2 X (fun S x0 x1 x2 x3 hq => hK (S, x0, x1, x2, x3) hq) hy
set_option maxRecDepth 100000 in
set_option maxHeartbeats 4000000 in
theorem wX3_doOneMore_0 {z : Nat} {N : Nat} {T : zS} (X : zX D cy p s m meth c cX3_doOneMore 4 RX3 none)  {S : zS} {x0 : Nat} {x1 : Int32} {x2 : Int32} (h : rX3_doOneMore_0 N S x0 x1 x2 = some T) : zWt D cy A p l e { frames := 0, cells := 0, slots := 0, locals := 0 } s m args below meth c z 0 0 0 0 (zQ D cy A T z none) S 4 0 [(0, .ref x0), (1, .int x1), (2, .int x2)] [] := by
  obtain ⟨hx, hb, hml, hown, hr, hlocks, hT⟩ := id X
  intro H locs ls hH hS hl
  unfold rX3_doOneMore_0 at h
  refine lv_iconst (v := (0 : Int32)) hx hb dX3_doOneMore_0 (by decide) ?_
  refine lv_istore_n (lv' := [(3, .int (0 : Int32)), (0, .ref x0), (1, .int x1), (2, .int x2)]) hx hb dX3_doOneMore_1 rfl hl (by decide) rfl (fun ls hl => ?_)
  exact uX3_doOneMore_2 X h _ _ _ hH hS (lv_sub hl [1, 2, 3, 0] rfl)
set_option maxRecDepth 100000 in
theorem kX3_doOneMore {N : Nat} {T : zS} {S : zS} {z : Nat} {x0 : Nat} {x1 : Int32} {x2 : Int32} (h : rX3_doOneMore N S x0 x1 x2 = some T) : Met l yX3_doOneMore [.code yX3_doOneMore cX3_doOneMore 4 none] { frames := 0, cells := 0, slots := 0, locals := 0 } (zP D cy A S z [.ref x0, .int x1, .int x2]) (zQ D cy A T z none) 0 0 A := by
  refine z_met (lv := [(0, .ref x0), (1, .int x1), (2, .int x2)]) (by decide) (Nat.le_of_ble_eq_true rfl) rfl ?_
  intro p e s m below meth c X H locs ls hH hS hl
  exact wX3_doOneMore_0 X h _ _ _ hH hS (lv_sub hl [0, 1, 2] rfl)
set_option maxRecDepth 100000 in
set_option maxHeartbeats 4000000 in
theorem wX3_numberedInputs_47 {z : Nat} {N : Nat} {r : Int32} {T : zS} (X : zX D cy p s m meth c cX3_numberedInputs 6 RX3 (some .int)) {K5 : zS × Nat × Nat × Int32 × Int32 × Int32 → Option (Int32 × zS)} (hK5 : ∀ (S : zS) (x0 : Nat) (x1 : Nat) (x2 : Int32) (x3 : Int32) (x4 : Int32), K5 (S, x0, x1, x2, x3, x4) = some (r, T) → zWt D cy A p l e { frames := 1, cells := 0, slots := 0, locals := 22 } s m args below meth c z 0 0 0 0 (zQ D cy A T z (some (.int r))) S 6 5 [(0, .ref x0), (1, .ref x1), (2, .int x2), (3, .int x3), (4, .int x4)] []) {S : zS} {x0 : Nat} {x1 : Nat} {x2 : Int32} {x3 : Int32} {x4 : Int32} (h : rX3_numberedInputs_47 N K5 S x0 x1 x2 x3 x4 = some (r, T)) : zWt D cy A p l e { frames := 1, cells := 0, slots := 0, locals := 22 } s m args below meth c z 0 0 0 0 (zQ D cy A T z (some (.int r))) S 6 47 [(0, .ref x0), (1, .ref x1), (2, .int x2), (3, .int x3), (4, .int x4)] [] := by
  obtain ⟨hx, hb, hml, hown, hr, hlocks, hT⟩ := id X
  intro H locs ls hH hS hl
  unfold rX3_numberedInputs_47 at h
  refine lv_iinc (v := (x4 + (1 : Int32))) (lv' := [(4, .int (x4 + (1 : Int32))), (0, .ref x0), (1, .ref x1), (2, .int x2), (3, .int x3)]) hx hb dX3_numberedInputs_47 hl (k := 4) rfl (z_ii (by decide) _) (by decide) rfl (fun ls hl => ?_)
  refine lv_goto (tgt := 5) hx hb dX3_numberedInputs_50 (by decide) ?_
  exact hK5 _ _ _ _ _ _ h _ _ _ hH hS (lv_sub hl [1, 2, 3, 4, 0] rfl)
set_option maxRecDepth 100000 in
set_option maxHeartbeats 4000000 in
theorem wX3_numberedInputs_5 {z : Nat} {N : Nat} {r : Int32} {T : zS} (X : zX D cy p s m meth c cX3_numberedInputs 6 RX3 (some .int)) {K5 : zS × Nat × Nat × Int32 × Int32 × Int32 → Option (Int32 × zS)} (hK5 : ∀ (S : zS) (x0 : Nat) (x1 : Nat) (x2 : Int32) (x3 : Int32) (x4 : Int32), K5 (S, x0, x1, x2, x3, x4) = some (r, T) → zWt D cy A p l e { frames := 1, cells := 0, slots := 0, locals := 22 } s m args below meth c z 0 0 0 0 (zQ D cy A T z (some (.int r))) S 6 5 [(0, .ref x0), (1, .ref x1), (2, .int x2), (3, .int x3), (4, .int x4)] []) {S : zS} {x0 : Nat} {x1 : Nat} {x2 : Int32} {x3 : Int32} {x4 : Int32} (h : rX3_numberedInputs_5 N K5 S x0 x1 x2 x3 x4 = some (r, T)) : zWt D cy A p l e { frames := 1, cells := 0, slots := 0, locals := 22 } s m args below meth c z 0 0 0 0 (zQ D cy A T z (some (.int r))) S 6 5 [(0, .ref x0), (1, .ref x1), (2, .int x2), (3, .int x3), (4, .int x4)] [] := by
  obtain ⟨hx, hb, hml, hown, hr, hlocks, hT⟩ := id X
  intro H locs ls hH hS hl
  unfold rX3_numberedInputs_5 at h
  refine lv_iload hx hb dX3_numberedInputs_5 (lv_at hl 4 rfl) ?_
  refine lv_aload_n hx hb dX3_numberedInputs_7 rfl (lv_at hl 1 rfl) ?_
  obtain ⟨v1, ev1, h⟩ := zb_some h
  refine z_getr X flX3_44 hH ev1 dX3_numberedInputs_8 ?_
  refine lv_iload_n hx hb dX3_numberedInputs_11 rfl (lv_at hl 2 rfl) ?_
  obtain ⟨v2, ev2, h⟩ := zb_some h
  refine z_iald X hH ev2 dX3_numberedInputs_12 ?_
  refine lv_icmp_ge (tgt := 53) hx hb dX3_numberedInputs_13 (by decide) (fun c => ?_) (fun c => ?_)
  · have h := (if_pos c).symm.trans h
    refine lv_iload_n hx hb dX3_numberedInputs_53 rfl (lv_at hl 3 rfl) ?_
    exact z_iret X hH hS h dX3_numberedInputs_54
  · have h := (if_neg c).symm.trans h
    refine lv_aload_n hx hb dX3_numberedInputs_16 rfl (lv_at hl 1 rfl) ?_
    refine lv_iload_n hx hb dX3_numberedInputs_17 rfl (lv_at hl 2 rfl) ?_
    refine lv_iload hx hb dX3_numberedInputs_18 (lv_at hl 4 rfl) ?_
    obtain ⟨u3, eu3, h⟩ := zb_some h
    obtain ⟨v5, S4, eS4, h⟩ := zb2_some h
    refine z_cV (As := [.int x2, .int x4]) X hl hH hS mlX3_47 eu3 (kX4_input eS4) rfl rfl (Nat.le_of_ble_eq_true rfl) ⟨rfl, rfl, Nat.le_of_ble_eq_true rfl, Nat.le_of_ble_eq_true rfl⟩ ⟨Nat.le_refl _, Nat.le_refl _⟩ dX3_numberedInputs_20 (fun H locs hH hS => ?_)
    refine lv_istore (lv' := [(5, .int v5), (0, .ref x0), (1, .ref x1), (2, .int x2), (3, .int x3), (4, .int x4)]) hx hb dX3_numberedInputs_23 hl (by decide) rfl (fun ls hl => ?_)
    refine lv_iload hx hb dX3_numberedInputs_25 (lv_at hl 0 rfl) ?_
    refine lv_bipush (v := (100 : Int32)) hx hb dX3_numberedInputs_27 (by decide) ?_
    refine lv_icmp_lt (tgt := 47) hx hb dX3_numberedInputs_29 (by decide) (fun c => ?_) (fun c => ?_)
    · have h := (if_pos c).symm.trans h
      exact wX3_numberedInputs_47 X hK5 h _ _ _ hH hS (lv_sub hl [1, 2, 3, 4, 5] rfl)
    · have h := (if_neg c).symm.trans h
      refine lv_iload_n hx hb dX3_numberedInputs_32 rfl (lv_at hl 4 rfl) ?_
      refine lv_iconst (v := (1 : Int32)) hx hb dX3_numberedInputs_33 (by decide) ?_
      refine lv_aload_n hx hb dX3_numberedInputs_34 rfl (lv_at hl 1 rfl) ?_
      obtain ⟨v6, ev6, h⟩ := zb_some h
      refine z_getr X flX3_19 hH ev6 dX3_numberedInputs_35 ?_
      refine lv_iload hx hb dX3_numberedInputs_38 (lv_at hl 0 rfl) ?_
      refine lv_bipush (v := (100 : Int32)) hx hb dX3_numberedInputs_40 (by decide) ?_
      refine lv_isub hx hb dX3_numberedInputs_42 ?_
      obtain ⟨v7, ev7, h⟩ := zb_some h
      refine z_iald X hH ev7 dX3_numberedInputs_43 ?_
      refine lv_ishl hx hb dX3_numberedInputs_44 ?_
      refine lv_ior hx hb dX3_numberedInputs_45 ?_
      refine lv_topi (fun v8 ev8 => ?_)
      have h := zlet_at ev8 h
      refine lv_istore_n (lv' := [(3, .int v8), (5, .int v5), (0, .ref x0), (1, .ref x1), (2, .int x2), (4, .int x4)]) hx hb dX3_numberedInputs_46 rfl hl (by decide) rfl (fun ls hl => ?_)
      exact wX3_numberedInputs_47 X hK5 h _ _ _ hH hS (lv_sub hl [2, 3, 4, 0, 5] rfl)
set_option maxRecDepth 100000 in
set_option maxHeartbeats 4000000 in
theorem uX3_numberedInputs_5 {z : Nat} {N : Nat} {r : Int32} {T : zS} (X : zX D cy p s m meth c cX3_numberedInputs 6 RX3 (some .int))  {S : zS} {x0 : Nat} {x1 : Nat} {x2 : Int32} {x3 : Int32} {x4 : Int32} (h : rlX3_numberedInputs_5 N S x0 x1 x2 x3 x4 = some (r, T)) : zWt D cy A p l e { frames := 1, cells := 0, slots := 0, locals := 22 } s m args below meth c z 0 0 0 0 (zQ D cy A T z (some (.int r))) S 6 5 [(0, .ref x0), (1, .ref x1), (2, .int x2), (3, .int x3), (4, .int x4)] [] := by
  unfold rlX3_numberedInputs_5 at h
  refine zloop_ind (P := fun y => zWt D cy A p l e { frames := 1, cells := 0, slots := 0, locals := 22 } s m args below meth c z 0 0 0 0 (zQ D cy A T z (some (.int r))) y.1 6 5 [(0, .ref y.2.1), (1, .ref y.2.2.1), (2, .int y.2.2.2.1), (3, .int y.2.2.2.2.1), (4, .int y.2.2.2.2.2)] []) ?_ N (S, x0, x1, x2, x3, x4) h
  intro K hK y hy
  obtain ⟨S, x0, x1, x2, x3, x4⟩ := y
  exact wX3_numberedInputs_5 X (fun S x0 x1 x2 x3 x4 hq => hK (S, x0, x1, x2, x3, x4) hq) hy
set_option maxRecDepth 100000 in
set_option maxHeartbeats 4000000 in
theorem wX3_numberedInputs_0 {z : Nat} {N : Nat} {r : Int32} {T : zS} (X : zX D cy p s m meth c cX3_numberedInputs 6 RX3 (some .int))  {S : zS} {x0 : Nat} {x1 : Nat} {x2 : Int32} (h : rX3_numberedInputs_0 N S x0 x1 x2 = some (r, T)) : zWt D cy A p l e { frames := 1, cells := 0, slots := 0, locals := 22 } s m args below meth c z 0 0 0 0 (zQ D cy A T z (some (.int r))) S 6 0 [(0, .ref x0), (1, .ref x1), (2, .int x2)] [] := by
  obtain ⟨hx, hb, hml, hown, hr, hlocks, hT⟩ := id X
  intro H locs ls hH hS hl
  unfold rX3_numberedInputs_0 at h
  refine lv_iconst (v := (0 : Int32)) hx hb dX3_numberedInputs_0 (by decide) ?_
  refine lv_istore_n (lv' := [(3, .int (0 : Int32)), (0, .ref x0), (1, .ref x1), (2, .int x2)]) hx hb dX3_numberedInputs_1 rfl hl (by decide) rfl (fun ls hl => ?_)
  refine lv_iconst (v := (0 : Int32)) hx hb dX3_numberedInputs_2 (by decide) ?_
  refine lv_istore (lv' := [(4, .int (0 : Int32)), (3, .int (0 : Int32)), (0, .ref x0), (1, .ref x1), (2, .int x2)]) hx hb dX3_numberedInputs_3 hl (by decide) rfl (fun ls hl => ?_)
  exact uX3_numberedInputs_5 X h _ _ _ hH hS (lv_sub hl [2, 3, 4, 1, 0] rfl)
set_option maxRecDepth 100000 in
theorem kX3_numberedInputs {N : Nat} {r : Int32} {T : zS} {S : zS} {z : Nat} {x0 : Nat} {x1 : Nat} {x2 : Int32} (h : rX3_numberedInputs N S x0 x1 x2 = some (r, T)) : Met l yX3_numberedInputs [.code yX3_numberedInputs cX3_numberedInputs 6 (some .int)] { frames := 1, cells := 0, slots := 0, locals := 22 } (zP D cy A S z [.ref x0, .ref x1, .int x2]) (zQ D cy A T z (some (.int r))) 0 0 A := by
  refine z_met (lv := [(0, .ref x0), (1, .ref x1), (2, .int x2)]) (by decide) (Nat.le_of_ble_eq_true rfl) rfl ?_
  intro p e s m below meth c X H locs ls hH hS hl
  exact wX3_numberedInputs_0 X h _ _ _ hH hS (lv_sub hl [0, 1, 2] rfl)
set_option maxRecDepth 100000 in
set_option maxHeartbeats 4000000 in
theorem wX3_numberOthers_55 {z : Nat} {N : Nat} {r : Int32} {T : zS} (X : zX D cy p s m meth c cX3_numberOthers 5 RX3 (some .int)) {K5 : zS × Nat × Nat × Int32 × Int32 × Int32 → Option (Int32 × zS)} (hK5 : ∀ (S : zS) (x0 : Nat) (x1 : Nat) (x2 : Int32) (x3 : Int32) (x4 : Int32), K5 (S, x0, x1, x2, x3, x4) = some (r, T) → zWt D cy A p l e { frames := 2, cells := 0, slots := 0, locals := 47 } s m args below meth c z 0 0 0 0 (zQ D cy A T z (some (.int r))) S 5 5 [(0, .ref x0), (1, .ref x1), (2, .int x2), (3, .int x3), (4, .int x4)] []) {S : zS} {x0 : Nat} {x1 : Nat} {x2 : Int32} {x3 : Int32} {x4 : Int32} (h : rX3_numberOthers_55 N K5 S x0 x1 x2 x3 x4 = some (r, T)) : zWt D cy A p l e { frames := 2, cells := 0, slots := 0, locals := 47 } s m args below meth c z 0 0 0 0 (zQ D cy A T z (some (.int r))) S 5 55 [(0, .ref x0), (1, .ref x1), (2, .int x2), (3, .int x3), (4, .int x4)] [] := by
  obtain ⟨hx, hb, hml, hown, hr, hlocks, hT⟩ := id X
  intro H locs ls hH hS hl
  unfold rX3_numberOthers_55 at h
  refine lv_iinc (v := (x4 + (1 : Int32))) (lv' := [(4, .int (x4 + (1 : Int32))), (0, .ref x0), (1, .ref x1), (2, .int x2), (3, .int x3)]) hx hb dX3_numberOthers_55 hl (k := 4) rfl (z_ii (by decide) _) (by decide) rfl (fun ls hl => ?_)
  refine lv_goto (tgt := 5) hx hb dX3_numberOthers_58 (by decide) ?_
  exact hK5 _ _ _ _ _ _ h _ _ _ hH hS (lv_sub hl [1, 2, 3, 4, 0] rfl)
set_option maxRecDepth 100000 in
set_option maxHeartbeats 4000000 in
theorem wX3_numberOthers_5 {z : Nat} {N : Nat} {r : Int32} {T : zS} (X : zX D cy p s m meth c cX3_numberOthers 5 RX3 (some .int)) {K5 : zS × Nat × Nat × Int32 × Int32 × Int32 → Option (Int32 × zS)} (hK5 : ∀ (S : zS) (x0 : Nat) (x1 : Nat) (x2 : Int32) (x3 : Int32) (x4 : Int32), K5 (S, x0, x1, x2, x3, x4) = some (r, T) → zWt D cy A p l e { frames := 2, cells := 0, slots := 0, locals := 47 } s m args below meth c z 0 0 0 0 (zQ D cy A T z (some (.int r))) S 5 5 [(0, .ref x0), (1, .ref x1), (2, .int x2), (3, .int x3), (4, .int x4)] []) {S : zS} {x0 : Nat} {x1 : Nat} {x2 : Int32} {x3 : Int32} {x4 : Int32} (h : rX3_numberOthers_5 N K5 S x0 x1 x2 x3 x4 = some (r, T)) : zWt D cy A p l e { frames := 2, cells := 0, slots := 0, locals := 47 } s m args below meth c z 0 0 0 0 (zQ D cy A T z (some (.int r))) S 5 5 [(0, .ref x0), (1, .ref x1), (2, .int x2), (3, .int x3), (4, .int x4)] [] := by
  obtain ⟨hx, hb, hml, hown, hr, hlocks, hT⟩ := id X
  intro H locs ls hH hS hl
  unfold rX3_numberOthers_5 at h
  refine lv_iload hx hb dX3_numberOthers_5 (lv_at hl 4 rfl) ?_
  refine lv_iload_n hx hb dX3_numberOthers_7 rfl (lv_at hl 2 rfl) ?_
  refine lv_icmp_ge (tgt := 61) hx hb dX3_numberOthers_8 (by decide) (fun c => ?_) (fun c => ?_)
  · have h := (if_pos c).symm.trans h
    refine lv_iload_n hx hb dX3_numberOthers_61 rfl (lv_at hl 3 rfl) ?_
    exact z_iret X hH hS h dX3_numberOthers_62
  · have h := (if_neg c).symm.trans h
    refine lv_aload_n hx hb dX3_numberOthers_11 rfl (lv_at hl 1 rfl) ?_
    obtain ⟨v1, ev1, h⟩ := zb_some h
    refine z_getr X flX3_36 hH ev1 dX3_numberOthers_12 ?_
    refine lv_iload_n hx hb dX3_numberOthers_15 rfl (lv_at hl 2 rfl) ?_
    obtain ⟨v2, ev2, h⟩ := zb_some h
    refine z_iald X hH ev2 dX3_numberOthers_16 ?_
    refine lv_iload hx hb dX3_numberOthers_17 (lv_at hl 4 rfl) ?_
    refine lv_iushr hx hb dX3_numberOthers_19 (zush_eq _ _) ?_
    refine lv_iconst (v := (1 : Int32)) hx hb dX3_numberOthers_20 (by decide) ?_
    refine lv_iand hx hb dX3_numberOthers_21 ?_
    refine lv_if_eq (tgt := 55) hx hb dX3_numberOthers_22 (by decide) (fun c => ?_) (fun c => ?_)
    · have h := (if_pos c).symm.trans h
      exact wX3_numberOthers_55 X hK5 h _ _ _ hH hS (lv_sub hl [0, 1, 2, 3, 4] rfl)
    · have h := (if_neg c).symm.trans h
      refine lv_iload_n hx hb dX3_numberOthers_25 rfl (lv_at hl 3 rfl) ?_
      refine lv_bipush (v := (15 : Int32)) hx hb dX3_numberOthers_26 (by decide) ?_
      refine lv_icmp_ge (tgt := 55) hx hb dX3_numberOthers_28 (by decide) (fun c => ?_) (fun c => ?_)
      · have h := (if_pos c).symm.trans h
        exact wX3_numberOthers_55 X hK5 h _ _ _ hH hS (lv_sub hl [0, 1, 2, 3, 4] rfl)
      · have h := (if_neg c).symm.trans h
        refine lv_aload_n hx hb dX3_numberOthers_31 rfl (lv_at hl 0 rfl) ?_
        obtain ⟨v3, ev3, h⟩ := zb_some h
        refine z_getr X flX3_19 hH ev3 dX3_numberOthers_32 ?_
        refine lv_iload hx hb dX3_numberOthers_35 (lv_at hl 4 rfl) ?_
        refine lv_iload_n hx hb dX3_numberOthers_37 rfl (lv_at hl 3 rfl) ?_
        obtain ⟨S4, eS4, h⟩ := zb_some h
        refine z_iast X hH hS eS4 dX3_numberOthers_38 (fun H locs hH hS => ?_)
        refine lv_aload_n hx hb dX3_numberOthers_39 rfl (lv_at hl 0 rfl) ?_
        obtain ⟨v5, ev5, h⟩ := zb_some h
        refine z_getr X flX3_15 hH ev5 dX3_numberOthers_40 ?_
        refine lv_iload_n hx hb dX3_numberOthers_43 rfl (lv_at hl 3 rfl) ?_
        refine lv_aload_n hx hb dX3_numberOthers_44 rfl (lv_at hl 0 rfl) ?_
        refine lv_aload_n hx hb dX3_numberOthers_45 rfl (lv_at hl 1 rfl) ?_
        refine lv_iload hx hb dX3_numberOthers_46 (lv_at hl 4 rfl) ?_
        obtain ⟨u6, eu6, h⟩ := zb_some h
        obtain ⟨v8, S7, eS7, h⟩ := zb2_some h
        refine z_cV (As := [.ref x1, .int x4]) X hl hH hS mlX3_41 eu6 (kX3_numberedInputs eS7) rfl rfl (Nat.le_of_ble_eq_true rfl) ⟨rfl, rfl, Nat.le_of_ble_eq_true rfl, Nat.le_of_ble_eq_true rfl⟩ ⟨Nat.le_refl _, Nat.le_refl _⟩ dX3_numberOthers_48 (fun H locs hH hS => ?_)
        obtain ⟨S9, eS9, h⟩ := zb_some h
        refine z_iast X hH hS eS9 dX3_numberOthers_51 (fun H locs hH hS => ?_)
        refine lv_iinc (v := (x3 + (1 : Int32))) (lv' := [(3, .int (x3 + (1 : Int32))), (0, .ref x0), (1, .ref x1), (2, .int x2), (4, .int x4)]) hx hb dX3_numberOthers_52 hl (k := 3) rfl (z_ii (by decide) _) (by decide) rfl (fun ls hl => ?_)
        exact wX3_numberOthers_55 X hK5 h _ _ _ hH hS (lv_sub hl [1, 2, 3, 0, 4] rfl)
set_option maxRecDepth 100000 in
set_option maxHeartbeats 4000000 in
theorem uX3_numberOthers_5 {z : Nat} {N : Nat} {r : Int32} {T : zS} (X : zX D cy p s m meth c cX3_numberOthers 5 RX3 (some .int))  {S : zS} {x0 : Nat} {x1 : Nat} {x2 : Int32} {x3 : Int32} {x4 : Int32} (h : rlX3_numberOthers_5 N S x0 x1 x2 x3 x4 = some (r, T)) : zWt D cy A p l e { frames := 2, cells := 0, slots := 0, locals := 47 } s m args below meth c z 0 0 0 0 (zQ D cy A T z (some (.int r))) S 5 5 [(0, .ref x0), (1, .ref x1), (2, .int x2), (3, .int x3), (4, .int x4)] [] := by
  unfold rlX3_numberOthers_5 at h
  refine zloop_ind (P := fun y => zWt D cy A p l e { frames := 2, cells := 0, slots := 0, locals := 47 } s m args below meth c z 0 0 0 0 (zQ D cy A T z (some (.int r))) y.1 5 5 [(0, .ref y.2.1), (1, .ref y.2.2.1), (2, .int y.2.2.2.1), (3, .int y.2.2.2.2.1), (4, .int y.2.2.2.2.2)] []) ?_ N (S, x0, x1, x2, x3, x4) h
  intro K hK y hy
  obtain ⟨S, x0, x1, x2, x3, x4⟩ := y
  exact wX3_numberOthers_5 X (fun S x0 x1 x2 x3 x4 hq => hK (S, x0, x1, x2, x3, x4) hq) hy
set_option maxRecDepth 100000 in
set_option maxHeartbeats 4000000 in
theorem wX3_numberOthers_0 {z : Nat} {N : Nat} {r : Int32} {T : zS} (X : zX D cy p s m meth c cX3_numberOthers 5 RX3 (some .int))  {S : zS} {x0 : Nat} {x1 : Nat} {x2 : Int32} (h : rX3_numberOthers_0 N S x0 x1 x2 = some (r, T)) : zWt D cy A p l e { frames := 2, cells := 0, slots := 0, locals := 47 } s m args below meth c z 0 0 0 0 (zQ D cy A T z (some (.int r))) S 5 0 [(0, .ref x0), (1, .ref x1), (2, .int x2)] [] := by
  obtain ⟨hx, hb, hml, hown, hr, hlocks, hT⟩ := id X
  intro H locs ls hH hS hl
  unfold rX3_numberOthers_0 at h
  refine lv_iconst (v := (0 : Int32)) hx hb dX3_numberOthers_0 (by decide) ?_
  refine lv_istore_n (lv' := [(3, .int (0 : Int32)), (0, .ref x0), (1, .ref x1), (2, .int x2)]) hx hb dX3_numberOthers_1 rfl hl (by decide) rfl (fun ls hl => ?_)
  refine lv_iconst (v := (0 : Int32)) hx hb dX3_numberOthers_2 (by decide) ?_
  refine lv_istore (lv' := [(4, .int (0 : Int32)), (3, .int (0 : Int32)), (0, .ref x0), (1, .ref x1), (2, .int x2)]) hx hb dX3_numberOthers_3 hl (by decide) rfl (fun ls hl => ?_)
  exact uX3_numberOthers_5 X h _ _ _ hH hS (lv_sub hl [2, 3, 4, 1, 0] rfl)
set_option maxRecDepth 100000 in
theorem kX3_numberOthers {N : Nat} {r : Int32} {T : zS} {S : zS} {z : Nat} {x0 : Nat} {x1 : Nat} {x2 : Int32} (h : rX3_numberOthers N S x0 x1 x2 = some (r, T)) : Met l yX3_numberOthers [.code yX3_numberOthers cX3_numberOthers 5 (some .int)] { frames := 2, cells := 0, slots := 0, locals := 47 } (zP D cy A S z [.ref x0, .ref x1, .int x2]) (zQ D cy A T z (some (.int r))) 0 0 A := by
  refine z_met (lv := [(0, .ref x0), (1, .ref x1), (2, .int x2)]) (by decide) (Nat.le_of_ble_eq_true rfl) rfl ?_
  intro p e s m below meth c X H locs ls hH hS hl
  exact wX3_numberOthers_0 X h _ _ _ hH hS (lv_sub hl [0, 1, 2] rfl)
set_option maxRecDepth 100000 in
set_option maxHeartbeats 4000000 in
theorem wX4_addStep_0 {z : Nat} {N : Nat} {r : Int32} {T : zS} (X : zX D cy p s m meth c cX4_addStep 5 RX4 (some .int))  {S : zS} {x0 : Nat} {x1 : Int32} {x2 : Int32} {x3 : Int32} (h : rX4_addStep_0 N S x0 x1 x2 x3 = some (r, T)) : zWt D cy A p l e { frames := 1, cells := 0, slots := 0, locals := 22 } s m args below meth c z 0 0 0 0 (zQ D cy A T z (some (.int r))) S 5 0 [(0, .ref x0), (1, .int x1), (2, .int x2), (3, .int x3)] [] := by
  obtain ⟨hx, hb, hml, hown, hr, hlocks, hT⟩ := id X
  intro H locs ls hH hS hl
  unfold rX4_addStep_0 at h
  refine lv_aload_n hx hb dX4_addStep_0 rfl (lv_at hl 0 rfl) ?_
  obtain ⟨v1, ev1, h⟩ := zb_some h
  refine z_geti X flX4_36 hH ev1 dX4_addStep_1 ?_
  refine lv_istore (lv' := [(4, .int v1), (0, .ref x0), (1, .int x1), (2, .int x2), (3, .int x3)]) hx hb dX4_addStep_4 hl (by decide) rfl (fun ls hl => ?_)
  refine lv_aload_n hx hb dX4_addStep_6 rfl (lv_at hl 1 rfl) ?_
  obtain ⟨v2, ev2, h⟩ := zb_some h
  refine z_getr X flX4_9 hH ev2 dX4_addStep_7 ?_
  refine lv_iload hx hb dX4_addStep_10 (lv_at hl 0 rfl) ?_
  refine lv_iload_n hx hb dX4_addStep_12 rfl (lv_at hl 2 rfl) ?_
  obtain ⟨S3, eS3, h⟩ := zb_some h
  refine z_iast X hH hS eS3 dX4_addStep_13 (fun H locs hH hS => ?_)
  refine lv_aload_n hx hb dX4_addStep_14 rfl (lv_at hl 1 rfl) ?_
  obtain ⟨v4, ev4, h⟩ := zb_some h
  refine z_getr X flX4_15 hH ev4 dX4_addStep_15 ?_
  refine lv_iload hx hb dX4_addStep_18 (lv_at hl 0 rfl) ?_
  refine lv_iload_n hx hb dX4_addStep_20 rfl (lv_at hl 3 rfl) ?_
  obtain ⟨S5, eS5, h⟩ := zb_some h
  refine z_iast X hH hS eS5 dX4_addStep_21 (fun H locs hH hS => ?_)
  refine lv_aload_n hx hb dX4_addStep_22 rfl (lv_at hl 1 rfl) ?_
  obtain ⟨v6, ev6, h⟩ := zb_some h
  refine z_getr X flX4_18 hH ev6 dX4_addStep_23 ?_
  refine lv_iload hx hb dX4_addStep_26 (lv_at hl 0 rfl) ?_
  refine lv_iload_n hx hb dX4_addStep_28 rfl (lv_at hl 4 rfl) ?_
  obtain ⟨S7, eS7, h⟩ := zb_some h
  refine z_iast X hH hS eS7 dX4_addStep_29 (fun H locs hH hS => ?_)
  refine lv_aload_n hx hb dX4_addStep_30 rfl (lv_at hl 1 rfl) ?_
  obtain ⟨v8, ev8, h⟩ := zb_some h
  refine z_getr X flX4_27 hH ev8 dX4_addStep_31 ?_
  refine lv_iload hx hb dX4_addStep_34 (lv_at hl 0 rfl) ?_
  refine lv_iconst (v := (1 : Int32)) hx hb dX4_addStep_36 (by decide) ?_
  refine lv_iload hx hb dX4_addStep_37 (lv_at hl 0 rfl) ?_
  refine lv_ishl hx hb dX4_addStep_39 ?_
  obtain ⟨S9, eS9, h⟩ := zb_some h
  refine z_iast X hH hS eS9 dX4_addStep_40 (fun H locs hH hS => ?_)
  refine lv_aload_n hx hb dX4_addStep_41 rfl (lv_at hl 1 rfl) ?_
  obtain ⟨v10, ev10, h⟩ := zb_some h
  refine z_getr X flX4_33 hH ev10 dX4_addStep_42 ?_
  refine lv_iload hx hb dX4_addStep_45 (lv_at hl 0 rfl) ?_
  refine lv_aload_n hx hb dX4_addStep_47 rfl (lv_at hl 1 rfl) ?_
  refine lv_iload hx hb dX4_addStep_48 (lv_at hl 0 rfl) ?_
  obtain ⟨u11, eu11, h⟩ := zb_some h
  obtain ⟨v13, S12, eS12, h⟩ := zb2_some h
  refine z_cV (As := [.int v1]) X hl hH hS mlX4_40 eu11 (kX4_ownWord eS12) rfl rfl (Nat.le_of_ble_eq_true rfl) ⟨rfl, rfl, Nat.le_of_ble_eq_true rfl, Nat.le_of_ble_eq_true rfl⟩ ⟨Nat.le_refl _, Nat.le_refl _⟩ dX4_addStep_50 (fun H locs hH hS => ?_)
  obtain ⟨S14, eS14, h⟩ := zb_some h
  refine z_iast X hH hS eS14 dX4_addStep_53 (fun H locs hH hS => ?_)
  refine lv_aload_n hx hb dX4_addStep_54 rfl (lv_at hl 1 rfl) ?_
  refine lv_dup hx hb dX4_addStep_55 rfl ?_
  obtain ⟨v15, ev15, h⟩ := zb_some h
  refine z_geti X flX4_36 hH ev15 dX4_addStep_56 ?_
  refine lv_iconst (v := (1 : Int32)) hx hb dX4_addStep_59 (by decide) ?_
  refine lv_iadd hx hb dX4_addStep_60 ?_
  obtain ⟨S16, eS16, h⟩ := zb_some h
  refine z_puti X flX4_36 fpX4_8 hH hS eS16 dX4_addStep_61 (fun H locs hH hS => ?_)
  refine lv_iload hx hb dX4_addStep_64 (lv_at hl 0 rfl) ?_
  exact z_iret X hH hS h dX4_addStep_66
set_option maxRecDepth 100000 in
theorem kX4_addStep {N : Nat} {r : Int32} {T : zS} {S : zS} {z : Nat} {x0 : Nat} {x1 : Int32} {x2 : Int32} {x3 : Int32} (h : rX4_addStep N S x0 x1 x2 x3 = some (r, T)) : Met l yX4_addStep [.code yX4_addStep cX4_addStep 5 (some .int)] { frames := 1, cells := 0, slots := 0, locals := 22 } (zP D cy A S z [.ref x0, .int x1, .int x2, .int x3]) (zQ D cy A T z (some (.int r))) 0 0 A := by
  refine z_met (lv := [(0, .ref x0), (1, .int x1), (2, .int x2), (3, .int x3)]) (by decide) (Nat.le_of_ble_eq_true rfl) rfl ?_
  intro p e s m below meth c X H locs ls hH hS hl
  exact wX4_addStep_0 X h _ _ _ hH hS (lv_sub hl [0, 1, 2, 3] rfl)
set_option maxRecDepth 100000 in
set_option maxHeartbeats 4000000 in
theorem wX4_addInput_109 {z : Nat} {N : Nat} {r : Int32} {T : zS} (X : zX D cy p s m meth c cX4_addInput 4 RX4 (some .int))  {S : zS} {x0 : Nat} {x1 : Int32} (h : rX4_addInput_109 N S x0 x1 = some (r, T)) : zWt D cy A p l e { frames := 0, cells := 0, slots := 0, locals := 0 } s m args below meth c z 0 0 0 0 (zQ D cy A T z (some (.int r))) S 4 109 [(0, .ref x0), (1, .int x1)] [] := by
  obtain ⟨hx, hb, hml, hown, hr, hlocks, hT⟩ := id X
  intro H locs ls hH hS hl
  unfold rX4_addInput_109 at h
  refine lv_aload_n hx hb dX4_addInput_109 rfl (lv_at hl 0 rfl) ?_
  obtain ⟨v1, ev1, h⟩ := zb_some h
  refine z_getr X flX4_24 hH ev1 dX4_addInput_110 ?_
  refine lv_iload_n hx hb dX4_addInput_113 rfl (lv_at hl 1 rfl) ?_
  obtain ⟨v2, ev2, h⟩ := zb_some h
  refine z_iald X hH ev2 dX4_addInput_114 ?_
  exact z_iret X hH hS h dX4_addInput_115
set_option maxRecDepth 100000 in
set_option maxHeartbeats 4000000 in
theorem wX4_addInput_0 {z : Nat} {N : Nat} {r : Int32} {T : zS} (X : zX D cy p s m meth c cX4_addInput 4 RX4 (some .int))  {S : zS} {x0 : Nat} {x1 : Int32} {x2 : Int32} (h : rX4_addInput_0 N S x0 x1 x2 = some (r, T)) : zWt D cy A p l e { frames := 0, cells := 0, slots := 0, locals := 0 } s m args below meth c z 0 0 0 0 (zQ D cy A T z (some (.int r))) S 4 0 [(0, .ref x0), (1, .int x1), (2, .int x2)] [] := by
  obtain ⟨hx, hb, hml, hown, hr, hlocks, hT⟩ := id X
  intro H locs ls hH hS hl
  unfold rX4_addInput_0 at h
  refine lv_aload_n hx hb dX4_addInput_0 rfl (lv_at hl 0 rfl) ?_
  obtain ⟨v3, ev3, h⟩ := zb_some h
  refine z_getr X flX4_21 hH ev3 dX4_addInput_1 ?_
  refine lv_iload_n hx hb dX4_addInput_4 rfl (lv_at hl 1 rfl) ?_
  refine lv_iconst (v := (4 : Int32)) hx hb dX4_addInput_5 (by decide) ?_
  refine lv_imul hx hb dX4_addInput_6 ?_
  refine lv_aload_n hx hb dX4_addInput_7 rfl (lv_at hl 0 rfl) ?_
  obtain ⟨v4, ev4, h⟩ := zb_some h
  refine z_getr X flX4_24 hH ev4 dX4_addInput_8 ?_
  refine lv_iload_n hx hb dX4_addInput_11 rfl (lv_at hl 1 rfl) ?_
  obtain ⟨v5, ev5, h⟩ := zb_some h
  refine z_iald X hH ev5 dX4_addInput_12 ?_
  refine lv_iadd hx hb dX4_addInput_13 ?_
  refine lv_iload_n hx hb dX4_addInput_14 rfl (lv_at hl 2 rfl) ?_
  obtain ⟨S6, eS6, h⟩ := zb_some h
  refine z_iast X hH hS eS6 dX4_addInput_15 (fun H locs hH hS => ?_)
  refine lv_aload_n hx hb dX4_addInput_16 rfl (lv_at hl 0 rfl) ?_
  obtain ⟨v7, ev7, h⟩ := zb_some h
  refine z_getr X flX4_24 hH ev7 dX4_addInput_17 ?_
  refine lv_iload_n hx hb dX4_addInput_20 rfl (lv_at hl 1 rfl) ?_
  refine lv_dup2_11 hx hb dX4_addInput_21 rfl rfl ?_
  obtain ⟨v8, ev8, h⟩ := zb_some h
  refine z_iald X hH ev8 dX4_addInput_22 ?_
  refine lv_iconst (v := (1 : Int32)) hx hb dX4_addInput_23 (by decide) ?_
  refine lv_iadd hx hb dX4_addInput_24 ?_
  obtain ⟨S9, eS9, h⟩ := zb_some h
  refine z_iast X hH hS eS9 dX4_addInput_25 (fun H locs hH hS => ?_)
  refine lv_iload_n hx hb dX4_addInput_26 rfl (lv_at hl 2 rfl) ?_
  refine lv_bipush (v := (100 : Int32)) hx hb dX4_addInput_27 (by decide) ?_
  refine lv_icmp_ge (tgt := 47) hx hb dX4_addInput_29 (by decide) (fun c => ?_) (fun c => ?_)
  · have h := (if_pos c).symm.trans h
    refine lv_iload_n hx hb dX4_addInput_47 rfl (lv_at hl 2 rfl) ?_
    refine lv_bipush (v := (100 : Int32)) hx hb dX4_addInput_48 (by decide) ?_
    refine lv_isub hx hb dX4_addInput_50 ?_
    refine lv_istore_n (lv' := [(3, .int (x2 - (100 : Int32))), (0, .ref x0), (1, .int x1), (2, .int x2)]) hx hb dX4_addInput_51 rfl hl (by decide) rfl (fun ls hl => ?_)
    refine lv_aload_n hx hb dX4_addInput_52 rfl (lv_at hl 1 rfl) ?_
    refine lv_dup hx hb dX4_addInput_53 rfl ?_
    obtain ⟨v10, ev10, h⟩ := zb_some h
    refine z_geti X flX4_44 hH ev10 dX4_addInput_54 ?_
    refine lv_iconst (v := (1 : Int32)) hx hb dX4_addInput_57 (by decide) ?_
    refine lv_iload_n hx hb dX4_addInput_58 rfl (lv_at hl 0 rfl) ?_
    refine lv_ishl hx hb dX4_addInput_59 ?_
    refine lv_ior hx hb dX4_addInput_60 ?_
    obtain ⟨S11, eS11, h⟩ := zb_some h
    refine z_puti X flX4_44 fpX4_9 hH hS eS11 dX4_addInput_61 (fun H locs hH hS => ?_)
    refine lv_aload_n hx hb dX4_addInput_64 rfl (lv_at hl 1 rfl) ?_
    obtain ⟨v12, ev12, h⟩ := zb_some h
    refine z_getr X flX4_27 hH ev12 dX4_addInput_65 ?_
    refine lv_iload_n hx hb dX4_addInput_68 rfl (lv_at hl 2 rfl) ?_
    refine lv_dup2_11 hx hb dX4_addInput_69 rfl rfl ?_
    obtain ⟨v13, ev13, h⟩ := zb_some h
    refine z_iald X hH ev13 dX4_addInput_70 ?_
    refine lv_aload_n hx hb dX4_addInput_71 rfl (lv_at hl 1 rfl) ?_
    obtain ⟨v14, ev14, h⟩ := zb_some h
    refine z_getr X flX4_27 hH ev14 dX4_addInput_72 ?_
    refine lv_iload_n hx hb dX4_addInput_75 rfl (lv_at hl 0 rfl) ?_
    obtain ⟨v15, ev15, h⟩ := zb_some h
    refine z_iald X hH ev15 dX4_addInput_76 ?_
    refine lv_ior hx hb dX4_addInput_77 ?_
    obtain ⟨S16, eS16, h⟩ := zb_some h
    refine z_iast X hH hS eS16 dX4_addInput_78 (fun H locs hH hS => ?_)
    refine lv_aload_n hx hb dX4_addInput_79 rfl (lv_at hl 1 rfl) ?_
    obtain ⟨v17, ev17, h⟩ := zb_some h
    refine z_getr X flX4_30 hH ev17 dX4_addInput_80 ?_
    refine lv_iload_n hx hb dX4_addInput_83 rfl (lv_at hl 2 rfl) ?_
    refine lv_dup2_11 hx hb dX4_addInput_84 rfl rfl ?_
    obtain ⟨v18, ev18, h⟩ := zb_some h
    refine z_iald X hH ev18 dX4_addInput_85 ?_
    refine lv_aload_n hx hb dX4_addInput_86 rfl (lv_at hl 1 rfl) ?_
    obtain ⟨v19, ev19, h⟩ := zb_some h
    refine z_getr X flX4_30 hH ev19 dX4_addInput_87 ?_
    refine lv_iload_n hx hb dX4_addInput_90 rfl (lv_at hl 0 rfl) ?_
    obtain ⟨v20, ev20, h⟩ := zb_some h
    refine z_iald X hH ev20 dX4_addInput_91 ?_
    refine lv_ior hx hb dX4_addInput_92 ?_
    obtain ⟨S21, eS21, h⟩ := zb_some h
    refine z_iast X hH hS eS21 dX4_addInput_93 (fun H locs hH hS => ?_)
    refine lv_aload_n hx hb dX4_addInput_94 rfl (lv_at hl 1 rfl) ?_
    obtain ⟨v22, ev22, h⟩ := zb_some h
    refine z_getr X flX4_33 hH ev22 dX4_addInput_95 ?_
    refine lv_iload_n hx hb dX4_addInput_98 rfl (lv_at hl 2 rfl) ?_
    refine lv_dup2_11 hx hb dX4_addInput_99 rfl rfl ?_
    obtain ⟨v23, ev23, h⟩ := zb_some h
    refine z_iald X hH ev23 dX4_addInput_100 ?_
    refine lv_aload_n hx hb dX4_addInput_101 rfl (lv_at hl 1 rfl) ?_
    obtain ⟨v24, ev24, h⟩ := zb_some h
    refine z_getr X flX4_33 hH ev24 dX4_addInput_102 ?_
    refine lv_iload_n hx hb dX4_addInput_105 rfl (lv_at hl 0 rfl) ?_
    obtain ⟨v25, ev25, h⟩ := zb_some h
    refine z_iald X hH ev25 dX4_addInput_106 ?_
    refine lv_ior hx hb dX4_addInput_107 ?_
    obtain ⟨S26, eS26, h⟩ := zb_some h
    refine z_iast X hH hS eS26 dX4_addInput_108 (fun H locs hH hS => ?_)
    exact wX4_addInput_109 X h _ _ _ hH hS (lv_sub hl [1, 2] rfl)
  · have h := (if_neg c).symm.trans h
    refine lv_aload_n hx hb dX4_addInput_32 rfl (lv_at hl 0 rfl) ?_
    obtain ⟨v27, ev27, h⟩ := zb_some h
    refine z_getr X flX4_30 hH ev27 dX4_addInput_33 ?_
    refine lv_iload_n hx hb dX4_addInput_36 rfl (lv_at hl 1 rfl) ?_
    refine lv_dup2_11 hx hb dX4_addInput_37 rfl rfl ?_
    obtain ⟨v28, ev28, h⟩ := zb_some h
    refine z_iald X hH ev28 dX4_addInput_38 ?_
    refine lv_iconst (v := (1 : Int32)) hx hb dX4_addInput_39 (by decide) ?_
    refine lv_iload_n hx hb dX4_addInput_40 rfl (lv_at hl 2 rfl) ?_
    refine lv_ishl hx hb dX4_addInput_41 ?_
    refine lv_ior hx hb dX4_addInput_42 ?_
    obtain ⟨S29, eS29, h⟩ := zb_some h
    refine z_iast X hH hS eS29 dX4_addInput_43 (fun H locs hH hS => ?_)
    refine lv_goto (tgt := 109) hx hb dX4_addInput_44 (by decide) ?_
    exact wX4_addInput_109 X h _ _ _ hH hS (lv_sub hl [0, 1] rfl)
set_option maxRecDepth 100000 in
theorem kX4_addInput {N : Nat} {r : Int32} {T : zS} {S : zS} {z : Nat} {x0 : Nat} {x1 : Int32} {x2 : Int32} (h : rX4_addInput N S x0 x1 x2 = some (r, T)) : Met l yX4_addInput [.code yX4_addInput cX4_addInput 4 (some .int)] { frames := 0, cells := 0, slots := 0, locals := 0 } (zP D cy A S z [.ref x0, .int x1, .int x2]) (zQ D cy A T z (some (.int r))) 0 0 A := by
  refine z_met (lv := [(0, .ref x0), (1, .int x1), (2, .int x2)]) (by decide) (Nat.le_of_ble_eq_true rfl) rfl ?_
  intro p e s m below meth c X H locs ls hH hS hl
  exact wX4_addInput_0 X h _ _ _ hH hS (lv_sub hl [0, 1, 2] rfl)
end
