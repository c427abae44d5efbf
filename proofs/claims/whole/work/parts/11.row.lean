section
variable {D : va_G} {cy : Nat → ClassId} {A : Nat → Prop} {p : Program} {l : Launch} {e : Env} {s : State} {m : MethodId} {args : Array Value} {below : List Frame} {meth : Method} {c : Code}
set_option maxRecDepth 100000 in
set_option maxHeartbeats 4000000 in
theorem wX5_append_0 {z : Nat} {N : Nat} {r : Int32} {T : zS} (X : zX D cy p s m meth c cX5_append 2 RX5 (some .boolean))  {S : zS} {x0 : Nat} {x1 : Nat} (h : fX5_append_0 N S x0 x1 = some (r, T)) : zWt D cy A p l e { frames := 1, cells := 0, slots := 0, locals := 24 } s m args below meth c z 0 0 0 0 (zQ D cy A T z (some (.int r))) S 2 0 [(0, .ref x0), (1, .ref x1)] [] := by
  obtain ⟨hx, hb, hml, hown, hr, hlocks, hT⟩ := id X
  intro H locs ls hH hS hl
  unfold fX5_append_0 at h
  refine lv_aload_n hx hb dX5_append_0 rfl (lv_at hl 0 rfl) ?_
  obtain ⟨v1, ev1, h⟩ := zb_some h
  refine z_geti X flX5_19 hH ev1 dX5_append_1 ?_
  refine lv_aload_n hx hb dX5_append_4 rfl (lv_at hl 1 rfl) ?_
  obtain ⟨v2, ev2, h⟩ := zb_some h
  refine z_geti X flX5_19 hH ev2 dX5_append_5 ?_
  refine lv_iadd hx hb dX5_append_8 ?_
  refine lv_aload_n hx hb dX5_append_9 rfl (lv_at hl 0 rfl) ?_
  obtain ⟨v3, ev3, h⟩ := zb_some h
  refine z_getr X flX5_13 hH ev3 dX5_append_10 ?_
  obtain ⟨v4, ev4, h⟩ := zb_some h
  refine z_alen X hH 9 (by decide) ev4 dX5_append_13 ?_
  refine lv_icmp_le (tgt := 19) hx hb dX5_append_14 (by decide) (fun c => ?_) (fun c => ?_)
  · have h := (if_pos c).symm.trans h
    refine lv_aload_n hx hb dX5_append_19 rfl (lv_at hl 1 rfl) ?_
    obtain ⟨v5, ev5, h⟩ := zb_some h
    refine z_getr X flX5_13 hH ev5 dX5_append_20 ?_
    refine lv_iconst (v := (0 : Int32)) hx hb dX5_append_23 (by decide) ?_
    refine lv_aload_n hx hb dX5_append_24 rfl (lv_at hl 0 rfl) ?_
    obtain ⟨v6, ev6, h⟩ := zb_some h
    refine z_getr X flX5_13 hH ev6 dX5_append_25 ?_
    refine lv_aload_n hx hb dX5_append_28 rfl (lv_at hl 0 rfl) ?_
    obtain ⟨v7, ev7, h⟩ := zb_some h
    refine z_geti X flX5_19 hH ev7 dX5_append_29 ?_
    refine lv_aload_n hx hb dX5_append_32 rfl (lv_at hl 1 rfl) ?_
    obtain ⟨v8, ev8, h⟩ := zb_some h
    refine z_geti X flX5_19 hH ev8 dX5_append_33 ?_
    obtain ⟨S9, eS9, h⟩ := zb_some h
    refine z_copy X hl hH hS eS9 cpX5_23 cp_n cp_s cp_i (Nat.le_of_ble_eq_true rfl) (Nat.le_of_ble_eq_true rfl) dX5_append_36 (fun H locs hH hS => ?_)
    refine lv_aload_n hx hb dX5_append_39 rfl (lv_at hl 0 rfl) ?_
    refine lv_dup hx hb dX5_append_40 rfl ?_
    obtain ⟨v10, ev10, h⟩ := zb_some h
    refine z_geti X flX5_19 hH ev10 dX5_append_41 ?_
    refine lv_aload_n hx hb dX5_append_44 rfl (lv_at hl 1 rfl) ?_
    obtain ⟨v11, ev11, h⟩ := zb_some h
    refine z_geti X flX5_19 hH ev11 dX5_append_45 ?_
    refine lv_iadd hx hb dX5_append_48 ?_
    obtain ⟨S12, eS12, h⟩ := zb_some h
    refine z_puti X flX5_19 fpX5_1 hH hS eS12 dX5_append_49 (fun H locs hH hS => ?_)
    refine lv_iconst (v := (1 : Int32)) hx hb dX5_append_52 (by decide) ?_
    exact z_zret X hH hS h dX5_append_53
  · have h := (if_neg c).symm.trans h
    refine lv_iconst (v := (0 : Int32)) hx hb dX5_append_17 (by decide) ?_
    exact z_zret X hH hS h dX5_append_18
set_option maxRecDepth 100000 in
theorem kX5_append {N : Nat} {r : Int32} {T : zS} {S : zS} {z : Nat} {x0 : Nat} {x1 : Nat} (h : fX5_append N S x0 x1 = some (r, T)) : Met l yX5_append [.code yX5_append cX5_append 2 (some .boolean)] { frames := 1, cells := 0, slots := 0, locals := 24 } (zP D cy A S z [.ref x0, .ref x1]) (zQ D cy A T z (some (.int r))) 0 0 A := by
  refine z_met (lv := [(0, .ref x0), (1, .ref x1)]) (by decide) (Nat.le_of_ble_eq_true rfl) rfl ?_
  intro p e s m below meth c X H locs ls hH hS hl
  exact wX5_append_0 X h _ _ _ hH hS (lv_sub hl [0, 1] rfl)
set_option maxRecDepth 100000 in
set_option maxHeartbeats 4000000 in
theorem wX5_put_0 {z : Nat} {N : Nat} {r : Int32} {T : zS} (X : zX D cy p s m meth c cX5_put 2 RX5 (some .boolean))  {S : zS} {x0 : Nat} {x1 : Int32} (h : fX5_put_0 N S x0 x1 = some (r, T)) : zWt D cy A p l e { frames := 0, cells := 0, slots := 0, locals := 0 } s m args below meth c z 0 0 0 0 (zQ D cy A T z (some (.int r))) S 2 0 [(0, .ref x0), (1, .int x1)] [] := by
  obtain ⟨hx, hb, hml, hown, hr, hlocks, hT⟩ := id X
  intro H locs ls hH hS hl
  unfold fX5_put_0 at h
  refine lv_aload_n hx hb dX5_put_0 rfl (lv_at hl 0 rfl) ?_
  obtain ⟨v1, ev1, h⟩ := zb_some h
  refine z_geti X flX5_19 hH ev1 dX5_put_1 ?_
  refine lv_aload_n hx hb dX5_put_4 rfl (lv_at hl 0 rfl) ?_
  obtain ⟨v2, ev2, h⟩ := zb_some h
  refine z_getr X flX5_13 hH ev2 dX5_put_5 ?_
  obtain ⟨v3, ev3, h⟩ := zb_some h
  refine z_alen X hH 9 (by decide) ev3 dX5_put_8 ?_
  refine lv_icmp_lt (tgt := 14) hx hb dX5_put_9 (by decide) (fun c => ?_) (fun c => ?_)
  · have h := (if_pos c).symm.trans h
    refine lv_aload_n hx hb dX5_put_14 rfl (lv_at hl 0 rfl) ?_
    obtain ⟨v4, ev4, h⟩ := zb_some h
    refine z_getr X flX5_13 hH ev4 dX5_put_15 ?_
    refine lv_aload_n hx hb dX5_put_18 rfl (lv_at hl 0 rfl) ?_
    obtain ⟨v5, ev5, h⟩ := zb_some h
    refine z_geti X flX5_19 hH ev5 dX5_put_19 ?_
    refine lv_iload_n hx hb dX5_put_22 rfl (lv_at hl 1 rfl) ?_
    obtain ⟨S6, eS6, h⟩ := zb_some h
    refine z_iast X hH hS eS6 dX5_put_23 (fun H locs hH hS => ?_)
    refine lv_aload_n hx hb dX5_put_24 rfl (lv_at hl 0 rfl) ?_
    refine lv_dup hx hb dX5_put_25 rfl ?_
    obtain ⟨v7, ev7, h⟩ := zb_some h
    refine z_geti X flX5_19 hH ev7 dX5_put_26 ?_
    refine lv_iconst (v := (1 : Int32)) hx hb dX5_put_29 (by decide) ?_
    refine lv_iadd hx hb dX5_put_30 ?_
    obtain ⟨S8, eS8, h⟩ := zb_some h
    refine z_puti X flX5_19 fpX5_1 hH hS eS8 dX5_put_31 (fun H locs hH hS => ?_)
    refine lv_iconst (v := (1 : Int32)) hx hb dX5_put_34 (by decide) ?_
    exact z_zret X hH hS h dX5_put_35
  · have h := (if_neg c).symm.trans h
    refine lv_iconst (v := (0 : Int32)) hx hb dX5_put_12 (by decide) ?_
    exact z_zret X hH hS h dX5_put_13
set_option maxRecDepth 100000 in
theorem kX5_put {N : Nat} {r : Int32} {T : zS} {S : zS} {z : Nat} {x0 : Nat} {x1 : Int32} (h : fX5_put N S x0 x1 = some (r, T)) : Met l yX5_put [.code yX5_put cX5_put 2 (some .boolean)] { frames := 0, cells := 0, slots := 0, locals := 0 } (zP D cy A S z [.ref x0, .int x1]) (zQ D cy A T z (some (.int r))) 0 0 A := by
  refine z_met (lv := [(0, .ref x0), (1, .int x1)]) (by decide) (Nat.le_of_ble_eq_true rfl) rfl ?_
  intro p e s m below meth c X H locs ls hH hS hl
  exact wX5_put_0 X h _ _ _ hH hS (lv_sub hl [0, 1] rfl)
set_option maxRecDepth 100000 in
set_option maxHeartbeats 4000000 in
theorem wX5_isSameAs_15 {z : Nat} {N : Nat} {r : Int32} {T : zS} (X : zX D cy p s m meth c cX5_isSameAs 3 RX5 (some .boolean)) {K15 : zS × Nat × Nat × Int32 → Option (Int32 × zS)} (hK15 : ∀ (S : zS) (x0 : Nat) (x1 : Nat) (x2 : Int32), K15 (S, x0, x1, x2) = some (r, T) → zWt D cy A p l e { frames := 0, cells := 0, slots := 0, locals := 0 } s m args below meth c z 0 0 0 0 (zQ D cy A T z (some (.int r))) S 3 15 [(0, .ref x0), (1, .ref x1), (2, .int x2)] []) {S : zS} {x0 : Nat} {x1 : Nat} {x2 : Int32} (h : fX5_isSameAs_15 N K15 S x0 x1 x2 = some (r, T)) : zWt D cy A p l e { frames := 0, cells := 0, slots := 0, locals := 0 } s m args below meth c z 0 0 0 0 (zQ D cy A T z (some (.int r))) S 3 15 [(0, .ref x0), (1, .ref x1), (2, .int x2)] [] := by
  obtain ⟨hx, hb, hml, hown, hr, hlocks, hT⟩ := id X
  intro H locs ls hH hS hl
  unfold fX5_isSameAs_15 at h
  refine lv_iload_n hx hb dX5_isSameAs_15 rfl (lv_at hl 2 rfl) ?_
  refine lv_aload_n hx hb dX5_isSameAs_16 rfl (lv_at hl 0 rfl) ?_
  obtain ⟨v1, ev1, h⟩ := zb_some h
  refine z_geti X flX5_19 hH ev1 dX5_isSameAs_17 ?_
  refine lv_icmp_ge (tgt := 46) hx hb dX5_isSameAs_20 (by decide) (fun c => ?_) (fun c => ?_)
  · have h := (if_pos c).symm.trans h
    refine lv_iconst (v := (1 : Int32)) hx hb dX5_isSameAs_46 (by decide) ?_
    exact z_zret X hH hS h dX5_isSameAs_47
  · have h := (if_neg c).symm.trans h
    refine lv_aload_n hx hb dX5_isSameAs_23 rfl (lv_at hl 0 rfl) ?_
    obtain ⟨v2, ev2, h⟩ := zb_some h
    refine z_getr X flX5_13 hH ev2 dX5_isSameAs_24 ?_
    refine lv_iload_n hx hb dX5_isSameAs_27 rfl (lv_at hl 2 rfl) ?_
    obtain ⟨v3, ev3, h⟩ := zb_some h
    refine z_iald X hH ev3 dX5_isSameAs_28 ?_
    refine lv_aload_n hx hb dX5_isSameAs_29 rfl (lv_at hl 1 rfl) ?_
    obtain ⟨v4, ev4, h⟩ := zb_some h
    refine z_getr X flX5_13 hH ev4 dX5_isSameAs_30 ?_
    refine lv_iload_n hx hb dX5_isSameAs_33 rfl (lv_at hl 2 rfl) ?_
    obtain ⟨v5, ev5, h⟩ := zb_some h
    refine z_iald X hH ev5 dX5_isSameAs_34 ?_
    refine lv_icmp_eq (tgt := 40) hx hb dX5_isSameAs_35 (by decide) (fun c => ?_) (fun c => ?_)
    · have h := (if_pos c).symm.trans h
      refine lv_iinc (v := (x2 + (1 : Int32))) (lv' := [(2, .int (x2 + (1 : Int32))), (0, .ref x0), (1, .ref x1)]) hx hb dX5_isSameAs_40 hl (k := 2) rfl (z_ii (by decide) _) (by decide) rfl (fun ls hl => ?_)
      refine lv_goto (tgt := 15) hx hb dX5_isSameAs_43 (by decide) ?_
      exact hK15 _ _ _ _ h _ _ _ hH hS (lv_sub hl [1, 2, 0] rfl)
    · have h := (if_neg c).symm.trans h
      refine lv_iconst (v := (0 : Int32)) hx hb dX5_isSameAs_38 (by decide) ?_
      exact z_zret X hH hS h dX5_isSameAs_39
set_option maxRecDepth 100000 in
set_option maxHeartbeats 4000000 in
theorem uX5_isSameAs_15 {z : Nat} {N : Nat} {r : Int32} {T : zS} (X : zX D cy p s m meth c cX5_isSameAs 3 RX5 (some .boolean))  {S : zS} {x0 : Nat} {x1 : Nat} {x2 : Int32} (h : lX5_isSameAs_15 N S x0 x1 x2 = some (r, T)) : zWt D cy A p l e { frames := 0, cells := 0, slots := 0, locals := 0 } s m args below meth c z 0 0 0 0 (zQ D cy A T z (some (.int r))) S 3 15 [(0, .ref x0), (1, .ref x1), (2, .int x2)] [] := by
  unfold lX5_isSameAs_15 at h
  refine zloop_ind (P := fun y => zWt D cy A p l e { frames := 0, cells := 0, slots := 0, locals := 0 } s m args below meth c z 0 0 0 0 (zQ D cy A T z (some (.int r))) y.1 3 15 [(0, .ref y.2.1), (1, .ref y.2.2.1), (2, .int y.2.2.2)] []) ?_ N (S, x0, x1, x2) h
  intro K hK y hy
  obtain ⟨S, x0, x1, x2⟩ := y
  exact wX5_isSameAs_15 X (fun S x0 x1 x2 hq => hK (S, x0, x1, x2) hq) hy
set_option maxRecDepth 100000 in
set_option maxHeartbeats 4000000 in
theorem wX5_isSameAs_0 {z : Nat} {N : Nat} {r : Int32} {T : zS} (X : zX D cy p s m meth c cX5_isSameAs 3 RX5 (some .boolean))  {S : zS} {x0 : Nat} {x1 : Nat} (h : fX5_isSameAs_0 N S x0 x1 = some (r, T)) : zWt D cy A p l e { frames := 0, cells := 0, slots := 0, locals := 0 } s m args below meth c z 0 0 0 0 (zQ D cy A T z (some (.int r))) S 3 0 [(0, .ref x0), (1, .ref x1)] [] := by
  obtain ⟨hx, hb, hml, hown, hr, hlocks, hT⟩ := id X
  intro H locs ls hH hS hl
  unfold fX5_isSameAs_0 at h
  refine lv_aload_n hx hb dX5_isSameAs_0 rfl (lv_at hl 0 rfl) ?_
  obtain ⟨v6, ev6, h⟩ := zb_some h
  refine z_geti X flX5_19 hH ev6 dX5_isSameAs_1 ?_
  refine lv_aload_n hx hb dX5_isSameAs_4 rfl (lv_at hl 1 rfl) ?_
  obtain ⟨v7, ev7, h⟩ := zb_some h
  refine z_geti X flX5_19 hH ev7 dX5_isSameAs_5 ?_
  refine lv_icmp_eq (tgt := 13) hx hb dX5_isSameAs_8 (by decide) (fun c => ?_) (fun c => ?_)
  · have h := (if_pos c).symm.trans h
    refine lv_iconst (v := (0 : Int32)) hx hb dX5_isSameAs_13 (by decide) ?_
    refine lv_istore_n (lv' := [(2, .int (0 : Int32)), (0, .ref x0), (1, .ref x1)]) hx hb dX5_isSameAs_14 rfl hl (by decide) rfl (fun ls hl => ?_)
    exact uX5_isSameAs_15 X h _ _ _ hH hS (lv_sub hl [1, 2, 0] rfl)
  · have h := (if_neg c).symm.trans h
    refine lv_iconst (v := (0 : Int32)) hx hb dX5_isSameAs_11 (by decide) ?_
    exact z_zret X hH hS h dX5_isSameAs_12
set_option maxRecDepth 100000 in
theorem kX5_isSameAs {N : Nat} {r : Int32} {T : zS} {S : zS} {z : Nat} {x0 : Nat} {x1 : Nat} (h : fX5_isSameAs N S x0 x1 = some (r, T)) : Met l yX5_isSameAs [.code yX5_isSameAs cX5_isSameAs 3 (some .boolean)] { frames := 0, cells := 0, slots := 0, locals := 0 } (zP D cy A S z [.ref x0, .ref x1]) (zQ D cy A T z (some (.int r))) 0 0 A := by
  refine z_met (lv := [(0, .ref x0), (1, .ref x1)]) (by decide) (Nat.le_of_ble_eq_true rfl) rfl ?_
  intro p e s m below meth c X H locs ls hH hS hl
  exact wX5_isSameAs_0 X h _ _ _ hH hS (lv_sub hl [0, 1] rfl)
set_option maxRecDepth 100000 in
set_option maxHeartbeats 4000000 in
theorem wX6_tapeTo_0 {z : Nat} {N : Nat} {r : Int32} {T : zS} (X : zX D cy p s m meth c cX6_tapeTo 2 RX6 (some .int))  {S : zS} {x0 : Nat} {x1 : Int32} (h : fX6_tapeTo_0 N S x0 x1 = some (r, T)) : zWt D cy A p l e { frames := 2, cells := 0, slots := 0, locals := 45 } s m args below meth c z 0 0 0 0 (zQ D cy A T z (some (.int r))) S 2 0 [(0, .ref x0), (1, .int x1)] [] := by
  obtain ⟨hx, hb, hml, hown, hr, hlocks, hT⟩ := id X
  intro H locs ls hH hS hl
  unfold fX6_tapeTo_0 at h
  refine lv_aload_n hx hb dX6_tapeTo_0 rfl (lv_at hl 0 rfl) ?_
  obtain ⟨v1, ev1, h⟩ := zb_some h
  refine z_getr X flX6_20 hH ev1 dX6_tapeTo_1 ?_
  refine lv_iload_n hx hb dX6_tapeTo_4 rfl (lv_at hl 1 rfl) ?_
  obtain ⟨v2, ev2, h⟩ := zb_some h
  refine z_aald X hH 12 (by decide) ev2 dX6_tapeTo_5 ?_
  refine lv_iconst (v := (0 : Int32)) hx hb dX6_tapeTo_6 (by decide) ?_
  obtain ⟨S3, eS3, h⟩ := zb_some h
  refine z_puti X flX6_24 fpX5_1 hH hS eS3 dX6_tapeTo_7 (fun H locs hH hS => ?_)
  refine lv_aload_n hx hb dX6_tapeTo_10 rfl (lv_at hl 0 rfl) ?_
  obtain ⟨v4, ev4, h⟩ := zb_some h
  refine z_getr X flX6_20 hH ev4 dX6_tapeTo_11 ?_
  refine lv_iload_n hx hb dX6_tapeTo_14 rfl (lv_at hl 1 rfl) ?_
  obtain ⟨v5, ev5, h⟩ := zb_some h
  refine z_aald X hH 12 (by decide) ev5 dX6_tapeTo_15 ?_
  refine lv_aload_n hx hb dX6_tapeTo_16 rfl (lv_at hl 0 rfl) ?_
  obtain ⟨v6, ev6, h⟩ := zb_some h
  refine z_getr X flX6_14 hH ev6 dX6_tapeTo_17 ?_
  obtain ⟨u7, eu7, h⟩ := zb_some h
  obtain ⟨v9, S8, eS8, h⟩ := zb2_some h
  refine z_cV (As := [.ref v6]) X hl hH hS mlX6_28 eu7 (kX5_append eS8) rfl rfl (Nat.le_of_ble_eq_true rfl) ⟨rfl, rfl, Nat.le_of_ble_eq_true rfl, Nat.le_of_ble_eq_true rfl⟩ ⟨Nat.le_refl _, Nat.le_refl _⟩ dX6_tapeTo_20 (fun H locs hH hS => ?_)
  refine lv_pop hx hb dX6_tapeTo_23 rfl ?_
  refine lv_aload_n hx hb dX6_tapeTo_24 rfl (lv_at hl 0 rfl) ?_
  obtain ⟨v10, ev10, h⟩ := zb_some h
  refine z_getr X flX6_14 hH ev10 dX6_tapeTo_25 ?_
  refine lv_iconst (v := (0 : Int32)) hx hb dX6_tapeTo_28 (by decide) ?_
  obtain ⟨S11, eS11, h⟩ := zb_some h
  refine z_puti X flX6_24 fpX5_1 hH hS eS11 dX6_tapeTo_29 (fun H locs hH hS => ?_)
  refine lv_aload_n hx hb dX6_tapeTo_32 rfl (lv_at hl 0 rfl) ?_
  obtain ⟨v12, ev12, h⟩ := zb_some h
  refine z_getr X flX6_20 hH ev12 dX6_tapeTo_33 ?_
  refine lv_iload_n hx hb dX6_tapeTo_36 rfl (lv_at hl 1 rfl) ?_
  obtain ⟨v13, ev13, h⟩ := zb_some h
  refine z_aald X hH 12 (by decide) ev13 dX6_tapeTo_37 ?_
  obtain ⟨v14, ev14, h⟩ := zb_some h
  refine z_geti X flX6_24 hH ev14 dX6_tapeTo_38 ?_
  exact z_iret X hH hS h dX6_tapeTo_41
set_option maxRecDepth 100000 in
theorem kX6_tapeTo {N : Nat} {r : Int32} {T : zS} {S : zS} {z : Nat} {x0 : Nat} {x1 : Int32} (h : fX6_tapeTo N S x0 x1 = some (r, T)) : Met l yX6_tapeTo [.code yX6_tapeTo cX6_tapeTo 2 (some .int)] { frames := 2, cells := 0, slots := 0, locals := 45 } (zP D cy A S z [.ref x0, .int x1]) (zQ D cy A T z (some (.int r))) 0 0 A := by
  refine z_met (lv := [(0, .ref x0), (1, .int x1)]) (by decide) (Nat.le_of_ble_eq_true rfl) rfl ?_
  intro p e s m below meth c X H locs ls hH hS hl
  exact wX6_tapeTo_0 X h _ _ _ hH hS (lv_sub hl [0, 1] rfl)
end
