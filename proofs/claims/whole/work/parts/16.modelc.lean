section
variable {D : va_G} {cy : Nat → ClassId} {A : Nat → Prop} {p : Program} {l : Launch} {e : Env} {s : State} {m : MethodId} {args : Array Value} {below : List Frame} {meth : Method} {c : Code}
set_option maxRecDepth 100000 in
set_option maxHeartbeats 4000000 in
theorem wX8_readBy_52 {z : Nat} {N : Nat} {r : Int32} {T : zS} (X : zX D cy p s m meth c cX8_readBy 2 RX8 (some .int))  {S : zS} {y0 : Int32} (h : fX8_readBy_52 N S y0 = some (r, T)) : zWt D cy A p l e { frames := 0, cells := 0, slots := 0, locals := 0 } s m args below meth c z 0 0 0 0 (zQ D cy A T z (some (.int r))) S 2 52 [] [.int y0] := by
  obtain ⟨hx, hb, hml, hown, hr, hlocks, hT⟩ := id X
  intro H locs ls hH hS hl
  unfold fX8_readBy_52 at h
  exact z_iret X hH hS h dX8_readBy_52
set_option maxRecDepth 100000 in
set_option maxHeartbeats 4000000 in
theorem wX8_readBy_51 {z : Nat} {N : Nat} {r : Int32} {T : zS} (X : zX D cy p s m meth c cX8_readBy 2 RX8 (some .int))  {S : zS} (h : fX8_readBy_51 N S = some (r, T)) : zWt D cy A p l e { frames := 0, cells := 0, slots := 0, locals := 0 } s m args below meth c z 0 0 0 0 (zQ D cy A T z (some (.int r))) S 2 51 [] [] := by
  obtain ⟨hx, hb, hml, hown, hr, hlocks, hT⟩ := id X
  intro H locs ls hH hS hl
  unfold fX8_readBy_51 at h
  refine lv_iconst (v := (0 : Int32)) hx hb dX8_readBy_51 (by decide) ?_
  exact wX8_readBy_52 X h _ _ _ hH hS (lv_sub hl [] rfl)
set_option maxRecDepth 100000 in
set_option maxHeartbeats 4000000 in
theorem wX8_readBy_40 {z : Nat} {N : Nat} {r : Int32} {T : zS} (X : zX D cy p s m meth c cX8_readBy 2 RX8 (some .int))  {S : zS} {x0 : Nat} {x1 : Int32} (h : fX8_readBy_40 N S x0 x1 = some (r, T)) : zWt D cy A p l e { frames := 0, cells := 0, slots := 0, locals := 0 } s m args below meth c z 0 0 0 0 (zQ D cy A T z (some (.int r))) S 2 40 [(0, .ref x0), (1, .int x1)] [] := by
  obtain ⟨hx, hb, hml, hown, hr, hlocks, hT⟩ := id X
  intro H locs ls hH hS hl
  unfold fX8_readBy_40 at h
  refine lv_iconst (v := (1 : Int32)) hx hb dX8_readBy_40 (by decide) ?_
  refine lv_aload_n hx hb dX8_readBy_41 rfl (lv_at hl 0 rfl) ?_
  obtain ⟨v1, ev1, h⟩ := zb_some h
  refine z_getr X flX8_32 hH ev1 dX8_readBy_42 ?_
  refine lv_iload_n hx hb dX8_readBy_45 rfl (lv_at hl 1 rfl) ?_
  obtain ⟨v2, ev2, h⟩ := zb_some h
  refine z_iald X hH ev2 dX8_readBy_46 ?_
  refine lv_ishl hx hb dX8_readBy_47 ?_
  refine lv_goto (tgt := 52) hx hb dX8_readBy_48 (by decide) ?_
  exact wX8_readBy_52 X h _ _ _ hH hS (lv_sub hl [] rfl)
set_option maxRecDepth 100000 in
set_option maxHeartbeats 4000000 in
theorem wX8_readBy_0 {z : Nat} {N : Nat} {r : Int32} {T : zS} (X : zX D cy p s m meth c cX8_readBy 2 RX8 (some .int))  {S : zS} {x0 : Nat} {x1 : Int32} (h : fX8_readBy_0 N S x0 x1 = some (r, T)) : zWt D cy A p l e { frames := 0, cells := 0, slots := 0, locals := 0 } s m args below meth c z 0 0 0 0 (zQ D cy A T z (some (.int r))) S 2 0 [(0, .ref x0), (1, .int x1)] [] := by
  obtain ⟨hx, hb, hml, hown, hr, hlocks, hT⟩ := id X
  intro H locs ls hH hS hl
  unfold fX8_readBy_0 at h
  refine lv_aload_n hx hb dX8_readBy_0 rfl (lv_at hl 0 rfl) ?_
  obtain ⟨v3, ev3, h⟩ := zb_some h
  refine z_getr X flX8_44 hH ev3 dX8_readBy_1 ?_
  refine lv_iload_n hx hb dX8_readBy_4 rfl (lv_at hl 1 rfl) ?_
  obtain ⟨v4, ev4, h⟩ := zb_some h
  refine z_iald X hH ev4 dX8_readBy_5 ?_
  refine lv_iconst (v := (-1 : Int32)) hx hb dX8_readBy_6 (by decide) ?_
  refine lv_icmp_eq (tgt := 51) hx hb dX8_readBy_7 (by decide) (fun c => ?_) (fun c => ?_)
  · have h := (if_pos c).symm.trans h
    exact wX8_readBy_51 X h _ _ _ hH hS (lv_sub hl [] rfl)
  · have h := (if_neg c).symm.trans h
    refine lv_aload_n hx hb dX8_readBy_10 rfl (lv_at hl 0 rfl) ?_
    obtain ⟨v5, ev5, h⟩ := zb_some h
    refine z_getr X flX8_26 hH ev5 dX8_readBy_11 ?_
    refine lv_iload_n hx hb dX8_readBy_14 rfl (lv_at hl 1 rfl) ?_
    obtain ⟨v6, ev6, h⟩ := zb_some h
    refine z_iald X hH ev6 dX8_readBy_15 ?_
    refine lv_iconst (v := (1 : Int32)) hx hb dX8_readBy_16 (by decide) ?_
    refine lv_icmp_eq (tgt := 40) hx hb dX8_readBy_17 (by decide) (fun c => ?_) (fun c => ?_)
    · have h := (if_pos c).symm.trans h
      exact wX8_readBy_40 X h _ _ _ hH hS (lv_sub hl [0, 1] rfl)
    · have h := (if_neg c).symm.trans h
      refine lv_aload_n hx hb dX8_readBy_20 rfl (lv_at hl 0 rfl) ?_
      obtain ⟨v7, ev7, h⟩ := zb_some h
      refine z_getr X flX8_26 hH ev7 dX8_readBy_21 ?_
      refine lv_iload_n hx hb dX8_readBy_24 rfl (lv_at hl 1 rfl) ?_
      obtain ⟨v8, ev8, h⟩ := zb_some h
      refine z_iald X hH ev8 dX8_readBy_25 ?_
      refine lv_iconst (v := (2 : Int32)) hx hb dX8_readBy_26 (by decide) ?_
      refine lv_icmp_eq (tgt := 40) hx hb dX8_readBy_27 (by decide) (fun c => ?_) (fun c => ?_)
      · have h := (if_pos c).symm.trans h
        exact wX8_readBy_40 X h _ _ _ hH hS (lv_sub hl [0, 1] rfl)
      · have h := (if_neg c).symm.trans h
        refine lv_aload_n hx hb dX8_readBy_30 rfl (lv_at hl 0 rfl) ?_
        obtain ⟨v9, ev9, h⟩ := zb_some h
        refine z_getr X flX8_26 hH ev9 dX8_readBy_31 ?_
        refine lv_iload_n hx hb dX8_readBy_34 rfl (lv_at hl 1 rfl) ?_
        obtain ⟨v10, ev10, h⟩ := zb_some h
        refine z_iald X hH ev10 dX8_readBy_35 ?_
        refine lv_iconst (v := (5 : Int32)) hx hb dX8_readBy_36 (by decide) ?_
        refine lv_icmp_ne (tgt := 51) hx hb dX8_readBy_37 (by decide) (fun c => ?_) (fun c => ?_)
        · have h := (if_neg c).symm.trans h
          exact wX8_readBy_51 X h _ _ _ hH hS (lv_sub hl [] rfl)
        · have h := (if_pos c).symm.trans h
          exact wX8_readBy_40 X h _ _ _ hH hS (lv_sub hl [0, 1] rfl)
set_option maxRecDepth 100000 in
theorem kX8_readBy {N : Nat} {r : Int32} {T : zS} {S : zS} {z : Nat} {x0 : Nat} {x1 : Int32} (h : fX8_readBy N S x0 x1 = some (r, T)) : Met l yX8_readBy [.code yX8_readBy cX8_readBy 2 (some .int)] { frames := 0, cells := 0, slots := 0, locals := 0 } (zP D cy A S z [.ref x0, .int x1]) (zQ D cy A T z (some (.int r))) 0 0 A := by
  refine z_met (lv := [(0, .ref x0), (1, .int x1)]) (by decide) (Nat.le_of_ble_eq_true rfl) rfl ?_
  intro p e s m below meth c X H locs ls hH hS hl
  exact wX8_readBy_0 X h _ _ _ hH hS (lv_sub hl [0, 1] rfl)
set_option maxRecDepth 100000 in
set_option maxHeartbeats 4000000 in
theorem wX8_wordsOf_63 {z : Nat} {N : Nat} {r : Int32} {T : zS} (X : zX D cy p s m meth c cX8_wordsOf 7 RX8 (some .int)) {K34 : zS × Nat × Int32 × Int32 × Int32 × Int32 → Option (Int32 × zS)} (hK34 : ∀ (S : zS) (x0 : Nat) (x2 : Int32) (x4 : Int32) (x5 : Int32) (x6 : Int32), K34 (S, x0, x2, x4, x5, x6) = some (r, T) → zWt D cy A p l e { frames := 5, cells := 0, slots := 0, locals := 119 } s m args below meth c z 0 0 0 0 (zQ D cy A T z (some (.int r))) S 7 34 [(0, .ref x0), (2, .int x2), (4, .int x4), (5, .int x5), (6, .int x6)] []) {S : zS} {x0 : Nat} {x2 : Int32} {x4 : Int32} {x6 : Int32} {y0 : Int32} {y1 : Int32} (h : fX8_wordsOf_63 N K34 S x0 x2 x4 x6 y0 y1 = some (r, T)) : zWt D cy A p l e { frames := 5, cells := 0, slots := 0, locals := 119 } s m args below meth c z 0 0 0 0 (zQ D cy A T z (some (.int r))) S 7 63 [(0, .ref x0), (2, .int x2), (4, .int x4), (6, .int x6)] [.int y1, .int y0] := by
  obtain ⟨hx, hb, hml, hown, hr, hlocks, hT⟩ := id X
  intro H locs ls hH hS hl
  unfold fX8_wordsOf_63 at h
  refine lv_ior hx hb dX8_wordsOf_63 ?_
  refine lv_istore (lv' := [(5, .int (y0 ||| y1)), (0, .ref x0), (2, .int x2), (4, .int x4), (6, .int x6)]) hx hb dX8_wordsOf_64 hl (by decide) rfl (fun ls hl => ?_)
  refine lv_iinc (v := (x6 + (1 : Int32))) (lv' := [(6, .int (x6 + (1 : Int32))), (5, .int (y0 ||| y1)), (0, .ref x0), (2, .int x2), (4, .int x4)]) hx hb dX8_wordsOf_66 hl (k := 4) rfl (z_ii (by decide) _) (by decide) rfl (fun ls hl => ?_)
  refine lv_goto (tgt := 34) hx hb dX8_wordsOf_69 (by decide) ?_
  exact hK34 _ _ _ _ _ _ h _ _ _ hH hS (lv_sub hl [2, 3, 4, 1, 0] rfl)
set_option maxRecDepth 100000 in
set_option maxHeartbeats 4000000 in
theorem wX8_wordsOf_34 {z : Nat} {N : Nat} {r : Int32} {T : zS} (X : zX D cy p s m meth c cX8_wordsOf 7 RX8 (some .int)) {K34 : zS × Nat × Int32 × Int32 × Int32 × Int32 → Option (Int32 × zS)} (hK34 : ∀ (S : zS) (x0 : Nat) (x2 : Int32) (x4 : Int32) (x5 : Int32) (x6 : Int32), K34 (S, x0, x2, x4, x5, x6) = some (r, T) → zWt D cy A p l e { frames := 5, cells := 0, slots := 0, locals := 119 } s m args below meth c z 0 0 0 0 (zQ D cy A T z (some (.int r))) S 7 34 [(0, .ref x0), (2, .int x2), (4, .int x4), (5, .int x5), (6, .int x6)] []) {S : zS} {x0 : Nat} {x2 : Int32} {x4 : Int32} {x5 : Int32} {x6 : Int32} (h : fX8_wordsOf_34 N K34 S x0 x2 x4 x5 x6 = some (r, T)) : zWt D cy A p l e { frames := 5, cells := 0, slots := 0, locals := 119 } s m args below meth c z 0 0 0 0 (zQ D cy A T z (some (.int r))) S 7 34 [(0, .ref x0), (2, .int x2), (4, .int x4), (5, .int x5), (6, .int x6)] [] := by
  obtain ⟨hx, hb, hml, hown, hr, hlocks, hT⟩ := id X
  intro H locs ls hH hS hl
  unfold fX8_wordsOf_34 at h
  refine lv_iload hx hb dX8_wordsOf_34 (lv_at hl 4 rfl) ?_
  refine lv_iload_n hx hb dX8_wordsOf_36 rfl (lv_at hl 1 rfl) ?_
  refine lv_icmp_gt (tgt := 72) hx hb dX8_wordsOf_37 (by decide) (fun c => ?_) (fun c => ?_)
  · have h := (if_pos c).symm.trans h
    refine lv_iload hx hb dX8_wordsOf_72 (lv_at hl 3 rfl) ?_
    exact z_iret X hH hS h dX8_wordsOf_74
  · have h := (if_neg c).symm.trans h
    refine lv_iload hx hb dX8_wordsOf_40 (lv_at hl 3 rfl) ?_
    refine lv_iload hx hb dX8_wordsOf_42 (lv_at hl 2 rfl) ?_
    refine lv_iload hx hb dX8_wordsOf_44 (lv_at hl 4 rfl) ?_
    refine lv_ishr hx hb dX8_wordsOf_46 ?_
    refine lv_iconst (v := (1 : Int32)) hx hb dX8_wordsOf_47 (by decide) ?_
    refine lv_iand hx hb dX8_wordsOf_48 ?_
    refine lv_iconst (v := (1 : Int32)) hx hb dX8_wordsOf_49 (by decide) ?_
    refine lv_icmp_ne (tgt := 62) hx hb dX8_wordsOf_50 (by decide) (fun c => ?_) (fun c => ?_)
    · have h := (if_neg c).symm.trans h
      refine lv_iconst (v := (0 : Int32)) hx hb dX8_wordsOf_62 (by decide) ?_
      exact wX8_wordsOf_63 X hK34 h _ _ _ hH hS (lv_sub hl [0, 1, 2, 4] rfl)
    · have h := (if_pos c).symm.trans h
      refine lv_aload_n hx hb dX8_wordsOf_53 rfl (lv_at hl 0 rfl) ?_
      refine lv_iload hx hb dX8_wordsOf_54 (lv_at hl 4 rfl) ?_
      obtain ⟨u1, eu1, h⟩ := zb_some h
      obtain ⟨v3, S2, eS2, h⟩ := zb2_some h
      refine z_cV (As := [.int x6]) X hl hH hS mlX8_175 eu1 (kX8_readBy eS2) rfl rfl (Nat.le_of_ble_eq_true rfl) ⟨rfl, rfl, Nat.le_of_ble_eq_true rfl, Nat.le_of_ble_eq_true rfl⟩ ⟨Nat.le_refl _, Nat.le_refl _⟩ dX8_wordsOf_56 (fun H locs hH hS => ?_)
      refine lv_goto (tgt := 63) hx hb dX8_wordsOf_59 (by decide) ?_
      exact wX8_wordsOf_63 X hK34 h _ _ _ hH hS (lv_sub hl [0, 1, 2, 4] rfl)
set_option maxRecDepth 100000 in
set_option maxHeartbeats 4000000 in
theorem uX8_wordsOf_34 {z : Nat} {N : Nat} {r : Int32} {T : zS} (X : zX D cy p s m meth c cX8_wordsOf 7 RX8 (some .int))  {S : zS} {x0 : Nat} {x2 : Int32} {x4 : Int32} {x5 : Int32} {x6 : Int32} (h : lX8_wordsOf_34 N S x0 x2 x4 x5 x6 = some (r, T)) : zWt D cy A p l e { frames := 5, cells := 0, slots := 0, locals := 119 } s m args below meth c z 0 0 0 0 (zQ D cy A T z (some (.int r))) S 7 34 [(0, .ref x0), (2, .int x2), (4, .int x4), (5, .int x5), (6, .int x6)] [] := by
  unfold lX8_wordsOf_34 at h
  refine zloop_ind (P := fun y => zWt D cy A p l e { frames := 5, cells := 0, slots := 0, locals := 119 } s m args below meth c z 0 0 0 0 (zQ D cy A T z (some (.int r))) y.1 7 34 [(0, .ref y.2.1), (2, .int y.2.2.1), (4, .int y.2.2.2.1), (5, .int y.2.2.2.2.1), (6, .int y.2.2.2.2.2)] []) ?_ N (S, x0, x2, x4, x5, x6) h
  intro K hK y hy
  obtain ⟨S, x0, x2, x4, x5, x6⟩ := y
  exact wX8_wordsOf_34 X (fun S x0 x2 x4 x5 x6 hq => hK (S, x0, x2, x4, x5, x6) hq) hy
set_option maxRecDepth 100000 in
set_option maxHeartbeats 4000000 in
theorem wX8_wordsOf_26 {z : Nat} {N : Nat} {r : Int32} {T : zS} (X : zX D cy p s m meth c cX8_wordsOf 7 RX8 (some .int))  {S : zS} {x0 : Nat} {x2 : Int32} {y0 : Int32} (h : fX8_wordsOf_26 N S x0 x2 y0 = some (r, T)) : zWt D cy A p l e { frames := 5, cells := 0, slots := 0, locals := 119 } s m args below meth c z 0 0 0 0 (zQ D cy A T z (some (.int r))) S 7 26 [(0, .ref x0), (2, .int x2)] [.int y0] := by
  obtain ⟨hx, hb, hml, hown, hr, hlocks, hT⟩ := id X
  intro H locs ls hH hS hl
  unfold fX8_wordsOf_26 at h
  refine lv_istore (lv' := [(4, .int y0), (0, .ref x0), (2, .int x2)]) hx hb dX8_wordsOf_26 hl (by decide) rfl (fun ls hl => ?_)
  refine lv_iconst (v := (0 : Int32)) hx hb dX8_wordsOf_28 (by decide) ?_
  refine lv_istore (lv' := [(5, .int (0 : Int32)), (4, .int y0), (0, .ref x0), (2, .int x2)]) hx hb dX8_wordsOf_29 hl (by decide) rfl (fun ls hl => ?_)
  refine lv_iconst (v := (0 : Int32)) hx hb dX8_wordsOf_31 (by decide) ?_
  refine lv_istore (lv' := [(6, .int (0 : Int32)), (5, .int (0 : Int32)), (4, .int y0), (0, .ref x0), (2, .int x2)]) hx hb dX8_wordsOf_32 hl (by decide) rfl (fun ls hl => ?_)
  exact uX8_wordsOf_34 X h _ _ _ hH hS (lv_sub hl [3, 4, 2, 1, 0] rfl)
set_option maxRecDepth 100000 in
set_option maxHeartbeats 4000000 in
theorem wX8_wordsOf_0 {z : Nat} {N : Nat} {r : Int32} {T : zS} (X : zX D cy p s m meth c cX8_wordsOf 7 RX8 (some .int))  {S : zS} {x0 : Nat} {x1 : Int32} {x2 : Int32} {x3 : Int32} (h : fX8_wordsOf_0 N S x0 x1 x2 x3 = some (r, T)) : zWt D cy A p l e { frames := 5, cells := 0, slots := 0, locals := 119 } s m args below meth c z 0 0 0 0 (zQ D cy A T z (some (.int r))) S 7 0 [(0, .ref x0), (1, .int x1), (2, .int x2), (3, .int x3)] [] := by
  obtain ⟨hx, hb, hml, hown, hr, hlocks, hT⟩ := id X
  intro H locs ls hH hS hl
  unfold fX8_wordsOf_0 at h
  refine lv_aload_n hx hb dX8_wordsOf_0 rfl (lv_at hl 0 rfl) ?_
  refine lv_iload_n hx hb dX8_wordsOf_1 rfl (lv_at hl 1 rfl) ?_
  obtain ⟨u4, eu4, h⟩ := zb_some h
  obtain ⟨S5, eS5, h⟩ := zb_some h
  refine z_cV (As := [.int x1]) X hl hH hS mlX8_166 eu4 (kX8_take eS5) rfl rfl (Nat.le_of_ble_eq_true rfl) ⟨rfl, rfl, Nat.le_of_ble_eq_true rfl, Nat.le_of_ble_eq_true rfl⟩ ⟨Nat.le_refl _, Nat.le_refl _⟩ dX8_wordsOf_2 (fun H locs hH hS => ?_)
  refine lv_aload_n hx hb dX8_wordsOf_5 rfl (lv_at hl 0 rfl) ?_
  refine lv_iconst (v := (0 : Int32)) hx hb dX8_wordsOf_6 (by decide) ?_
  refine lv_iload_n hx hb dX8_wordsOf_7 rfl (lv_at hl 2 rfl) ?_
  obtain ⟨u6, eu6, h⟩ := zb_some h
  obtain ⟨S7, eS7, h⟩ := zb_some h
  refine z_cV (As := [.int (0 : Int32), .int x2]) X hl hH hS mlX8_169 eu6 (kX8_build eS7) rfl rfl (Nat.le_of_ble_eq_true rfl) ⟨rfl, rfl, Nat.le_of_ble_eq_true rfl, Nat.le_of_ble_eq_true rfl⟩ ⟨Nat.le_refl _, Nat.le_refl _⟩ dX8_wordsOf_8 (fun H locs hH hS => ?_)
  refine lv_iload_n hx hb dX8_wordsOf_11 rfl (lv_at hl 3 rfl) ?_
  refine lv_if_eq (tgt := 23) hx hb dX8_wordsOf_12 (by decide) (fun c => ?_) (fun c => ?_)
  · have h := (if_pos c).symm.trans h
    refine lv_iconst (v := (1 : Int32)) hx hb dX8_wordsOf_23 (by decide) ?_
    refine lv_iload_n hx hb dX8_wordsOf_24 rfl (lv_at hl 2 rfl) ?_
    refine lv_ishl hx hb dX8_wordsOf_25 ?_
    exact wX8_wordsOf_26 X h _ _ _ hH hS (lv_sub hl [0, 2] rfl)
  · have h := (if_neg c).symm.trans h
    refine lv_aload_n hx hb dX8_wordsOf_15 rfl (lv_at hl 0 rfl) ?_
    refine lv_iload_n hx hb dX8_wordsOf_16 rfl (lv_at hl 2 rfl) ?_
    obtain ⟨u8, eu8, h⟩ := zb_some h
    obtain ⟨v10, S9, eS9, h⟩ := zb2_some h
    refine z_cV (As := [.int x2]) X hl hH hS mlX8_172 eu8 (kX8_usedBy eS9) rfl rfl (Nat.le_of_ble_eq_true rfl) ⟨rfl, rfl, Nat.le_of_ble_eq_true rfl, Nat.le_of_ble_eq_true rfl⟩ ⟨Nat.le_refl _, Nat.le_refl _⟩ dX8_wordsOf_17 (fun H locs hH hS => ?_)
    refine lv_goto (tgt := 26) hx hb dX8_wordsOf_20 (by decide) ?_
    exact wX8_wordsOf_26 X h _ _ _ hH hS (lv_sub hl [0, 2] rfl)
set_option maxRecDepth 100000 in
theorem kX8_wordsOf {N : Nat} {r : Int32} {T : zS} {S : zS} {z : Nat} {x0 : Nat} {x1 : Int32} {x2 : Int32} {x3 : Int32} (h : fX8_wordsOf N S x0 x1 x2 x3 = some (r, T)) : Met l yX8_wordsOf [.code yX8_wordsOf cX8_wordsOf 7 (some .int)] { frames := 5, cells := 0, slots := 0, locals := 119 } (zP D cy A S z [.ref x0, .int x1, .int x2, .int x3]) (zQ D cy A T z (some (.int r))) 0 0 A := by
  refine z_met (lv := [(0, .ref x0), (1, .int x1), (2, .int x2), (3, .int x3)]) (by decide) (Nat.le_of_ble_eq_true rfl) rfl ?_
  intro p e s m below meth c X H locs ls hH hS hl
  exact wX8_wordsOf_0 X h _ _ _ hH hS (lv_sub hl [0, 1, 2, 3] rfl)
set_option maxRecDepth 100000 in
set_option maxHeartbeats 4000000 in
theorem wX8_reads_44 {z : Nat} {N : Nat} {r : Int32} {T : zS} (X : zX D cy p s m meth c cX8_reads 4 RX8 (some .int))  {S : zS} {y0 : Int32} (h : fX8_reads_44 N S y0 = some (r, T)) : zWt D cy A p l e { frames := 6, cells := 0, slots := 0, locals := 145 } s m args below meth c z 0 0 0 0 (zQ D cy A T z (some (.int r))) S 4 44 [] [.int y0] := by
  obtain ⟨hx, hb, hml, hown, hr, hlocks, hT⟩ := id X
  intro H locs ls hH hS hl
  unfold fX8_reads_44 at h
  exact z_iret X hH hS h dX8_reads_44
set_option maxRecDepth 100000 in
set_option maxHeartbeats 4000000 in
theorem wX8_reads_43 {z : Nat} {N : Nat} {r : Int32} {T : zS} (X : zX D cy p s m meth c cX8_reads 4 RX8 (some .int))  {S : zS} (h : fX8_reads_43 N S = some (r, T)) : zWt D cy A p l e { frames := 6, cells := 0, slots := 0, locals := 145 } s m args below meth c z 0 0 0 0 (zQ D cy A T z (some (.int r))) S 4 43 [] [] := by
  obtain ⟨hx, hb, hml, hown, hr, hlocks, hT⟩ := id X
  intro H locs ls hH hS hl
  unfold fX8_reads_43 at h
  refine lv_iconst (v := (-1 : Int32)) hx hb dX8_reads_43 (by decide) ?_
  exact wX8_reads_44 X h _ _ _ hH hS (lv_sub hl [] rfl)
set_option maxRecDepth 100000 in
set_option maxHeartbeats 4000000 in
theorem wX8_reads_37 {z : Nat} {N : Nat} {r : Int32} {T : zS} (X : zX D cy p s m meth c cX8_reads 4 RX8 (some .int))  {S : zS} {y0 : Nat} {y1 : Int32} {y2 : Int32} {y3 : Int32} (h : fX8_reads_37 N S y0 y1 y2 y3 = some (r, T)) : zWt D cy A p l e { frames := 6, cells := 0, slots := 0, locals := 145 } s m args below meth c z 0 0 0 0 (zQ D cy A T z (some (.int r))) S 4 37 [] [.int y3, .int y2, .int y1, .ref y0] := by
  obtain ⟨hx, hb, hml, hown, hr, hlocks, hT⟩ := id X
  intro H locs ls hH hS hl
  unfold fX8_reads_37 at h
  obtain ⟨u1, eu1, h⟩ := zb_some h
  obtain ⟨v3, S2, eS2, h⟩ := zb2_some h
  refine z_cV (As := [.int y1, .int y2, .int y3]) X hl hH hS mlX8_178 eu1 (kX8_wordsOf eS2) rfl rfl (Nat.le_of_ble_eq_true rfl) ⟨rfl, rfl, Nat.le_of_ble_eq_true rfl, Nat.le_of_ble_eq_true rfl⟩ ⟨Nat.le_refl _, Nat.le_refl _⟩ dX8_reads_37 (fun H locs hH hS => ?_)
  refine lv_goto (tgt := 44) hx hb dX8_reads_40 (by decide) ?_
  exact wX8_reads_44 X h _ _ _ hH hS (lv_sub hl [] rfl)
set_option maxRecDepth 100000 in
set_option maxHeartbeats 4000000 in
theorem wX8_reads_0 {z : Nat} {N : Nat} {r : Int32} {T : zS} (X : zX D cy p s m meth c cX8_reads 4 RX8 (some .int))  {S : zS} {x0 : Nat} {x1 : Int32} {x2 : Int32} {x3 : Int32} (h : fX8_reads_0 N S x0 x1 x2 x3 = some (r, T)) : zWt D cy A p l e { frames := 6, cells := 0, slots := 0, locals := 145 } s m args below meth c z 0 0 0 0 (zQ D cy A T z (some (.int r))) S 4 0 [(0, .ref x0), (1, .int x1), (2, .int x2), (3, .int x3)] [] := by
  obtain ⟨hx, hb, hml, hown, hr, hlocks, hT⟩ := id X
  intro H locs ls hH hS hl
  unfold fX8_reads_0 at h
  refine lv_iload_n hx hb dX8_reads_0 rfl (lv_at hl 1 rfl) ?_
  obtain ⟨v5, S4, eS4, h⟩ := zb2_some h
  refine z_cS (As := [.int x1]) X hl hH hS mlX8_120 (kX8_isRoom eS4) rfl rfl (Nat.le_of_ble_eq_true rfl) ⟨rfl, rfl, Nat.le_of_ble_eq_true rfl, Nat.le_of_ble_eq_true rfl⟩ ⟨Nat.le_refl _, Nat.le_refl _⟩ dX8_reads_1 (fun H locs hH hS => ?_)
  refine lv_if_eq (tgt := 43) hx hb dX8_reads_4 (by decide) (fun c => ?_) (fun c => ?_)
  · have h := (if_pos c).symm.trans h
    exact wX8_reads_43 X h _ _ _ hH hS (lv_sub hl [] rfl)
  · have h := (if_neg c).symm.trans h
    refine lv_aload_n hx hb dX8_reads_7 rfl (lv_at hl 0 rfl) ?_
    refine lv_iload_n hx hb dX8_reads_8 rfl (lv_at hl 2 rfl) ?_
    obtain ⟨u6, eu6, h⟩ := zb_some h
    obtain ⟨v8, S7, eS7, h⟩ := zb2_some h
    refine z_cV (As := [.int x2]) X hl hH hS mlX8_126 eu6 (kX8_isStep eS7) rfl rfl (Nat.le_of_ble_eq_true rfl) ⟨rfl, rfl, Nat.le_of_ble_eq_true rfl, Nat.le_of_ble_eq_true rfl⟩ ⟨Nat.le_refl _, Nat.le_refl _⟩ dX8_reads_9 (fun H locs hH hS => ?_)
    refine lv_if_eq (tgt := 43) hx hb dX8_reads_12 (by decide) (fun c => ?_) (fun c => ?_)
    · have h := (if_pos c).symm.trans h
      exact wX8_reads_43 X h _ _ _ hH hS (lv_sub hl [] rfl)
    · have h := (if_neg c).symm.trans h
      refine lv_iload_n hx hb dX8_reads_15 rfl (lv_at hl 3 rfl) ?_
      refine lv_iconst (v := (0 : Int32)) hx hb dX8_reads_16 (by decide) ?_
      refine lv_iconst (v := (1 : Int32)) hx hb dX8_reads_17 (by decide) ?_
      obtain ⟨v10, S9, eS9, h⟩ := zb2_some h
      refine z_cS (As := [.int x3, .int (0 : Int32), .int (1 : Int32)]) X hl hH hS mlX8_99 (kX8_in eS9) rfl rfl (Nat.le_of_ble_eq_true rfl) ⟨rfl, rfl, Nat.le_of_ble_eq_true rfl, Nat.le_of_ble_eq_true rfl⟩ ⟨Nat.le_refl _, Nat.le_refl _⟩ dX8_reads_18 (fun H locs hH hS => ?_)
      refine lv_if_eq (tgt := 43) hx hb dX8_reads_21 (by decide) (fun c => ?_) (fun c => ?_)
      · have h := (if_pos c).symm.trans h
        exact wX8_reads_43 X h _ _ _ hH hS (lv_sub hl [] rfl)
      · have h := (if_neg c).symm.trans h
        refine lv_aload_n hx hb dX8_reads_24 rfl (lv_at hl 0 rfl) ?_
        refine lv_iload_n hx hb dX8_reads_25 rfl (lv_at hl 1 rfl) ?_
        refine lv_iload_n hx hb dX8_reads_26 rfl (lv_at hl 2 rfl) ?_
        refine lv_iload_n hx hb dX8_reads_27 rfl (lv_at hl 3 rfl) ?_
        refine lv_iconst (v := (1 : Int32)) hx hb dX8_reads_28 (by decide) ?_
        refine lv_icmp_ne (tgt := 36) hx hb dX8_reads_29 (by decide) (fun c => ?_) (fun c => ?_)
        · have h := (if_neg c).symm.trans h
          refine lv_iconst (v := (0 : Int32)) hx hb dX8_reads_36 (by decide) ?_
          exact wX8_reads_37 X h _ _ _ hH hS (lv_sub hl [] rfl)
        · have h := (if_pos c).symm.trans h
          refine lv_iconst (v := (1 : Int32)) hx hb dX8_reads_32 (by decide) ?_
          refine lv_goto (tgt := 37) hx hb dX8_reads_33 (by decide) ?_
          exact wX8_reads_37 X h _ _ _ hH hS (lv_sub hl [] rfl)
set_option maxRecDepth 100000 in
theorem kX8_reads {N : Nat} {r : Int32} {T : zS} {S : zS} {z : Nat} {x0 : Nat} {x1 : Int32} {x2 : Int32} {x3 : Int32} (h : fX8_reads N S x0 x1 x2 x3 = some (r, T)) : Met l yX8_reads [.code yX8_reads cX8_reads 4 (some .int)] { frames := 6, cells := 0, slots := 0, locals := 145 } (zP D cy A S z [.ref x0, .int x1, .int x2, .int x3]) (zQ D cy A T z (some (.int r))) 0 0 A := by
  refine z_met (lv := [(0, .ref x0), (1, .int x1), (2, .int x2), (3, .int x3)]) (by decide) (Nat.le_of_ble_eq_true rfl) rfl ?_
  intro p e s m below meth c X H locs ls hH hS hl
  exact wX8_reads_0 X h _ _ _ hH hS (lv_sub hl [0, 1, 2, 3] rfl)
set_option maxRecDepth 100000 in
set_option maxHeartbeats 4000000 in
theorem wX8_uses_105 {z : Nat} {N : Nat} {r : Int32} {T : zS} (X : zX D cy p s m meth c cX8_uses 7 RX8 (some .int)) {K37 : zS × Nat × Int32 × Int32 × Int32 × Int32 → Option (Int32 × zS)} (hK37 : ∀ (S : zS) (x0 : Nat) (x1 : Int32) (x3 : Int32) (x4 : Int32) (x5 : Int32), K37 (S, x0, x1, x3, x4, x5) = some (r, T) → zWt D cy A p l e { frames := 2, cells := 0, slots := 0, locals := 43 } s m args below meth c z 0 0 0 0 (zQ D cy A T z (some (.int r))) S 7 37 [(0, .ref x0), (1, .int x1), (3, .int x3), (4, .int x4), (5, .int x5)] []) {K46 : zS × Nat × Int32 × Int32 × Int32 × Int32 × Int32 → Option (Int32 × zS)} (hK46 : ∀ (S : zS) (x0 : Nat) (x1 : Int32) (x3 : Int32) (x4 : Int32) (x5 : Int32) (x6 : Int32), K46 (S, x0, x1, x3, x4, x5, x6) = some (r, T) → zWt D cy A p l e { frames := 2, cells := 0, slots := 0, locals := 43 } s m args below meth c z 0 0 0 0 (zQ D cy A T z (some (.int r))) S 7 46 [(0, .ref x0), (1, .int x1), (3, .int x3), (4, .int x4), (5, .int x5), (6, .int x6)] []) {S : zS} {x0 : Nat} {x1 : Int32} {x3 : Int32} {x5 : Int32} {x6 : Int32} {y0 : Int32} {y1 : Int32} (h : fX8_uses_105 N K37 K46 S x0 x1 x3 x5 x6 y0 y1 = some (r, T)) : zWt D cy A p l e { frames := 2, cells := 0, slots := 0, locals := 43 } s m args below meth c z 0 0 0 0 (zQ D cy A T z (some (.int r))) S 7 105 [(0, .ref x0), (1, .int x1), (3, .int x3), (5, .int x5), (6, .int x6)] [.int y1, .int y0] := by
  obtain ⟨hx, hb, hml, hown, hr, hlocks, hT⟩ := id X
  intro H locs ls hH hS hl
  unfold fX8_uses_105 at h
  refine lv_ior hx hb dX8_uses_105 ?_
  refine lv_istore (lv' := [(4, .int (y0 ||| y1)), (0, .ref x0), (1, .int x1), (3, .int x3), (5, .int x5), (6, .int x6)]) hx hb dX8_uses_106 hl (by decide) rfl (fun ls hl => ?_)
  refine lv_iinc (v := (x6 + (1 : Int32))) (lv' := [(6, .int (x6 + (1 : Int32))), (4, .int (y0 ||| y1)), (0, .ref x0), (1, .int x1), (3, .int x3), (5, .int x5)]) hx hb dX8_uses_108 hl (k := 5) rfl (z_ii (by decide) _) (by decide) rfl (fun ls hl => ?_)
  refine lv_goto (tgt := 46) hx hb dX8_uses_111 (by decide) ?_
  exact hK46 _ _ _ _ _ _ _ h _ _ _ hH hS (lv_sub hl [2, 3, 4, 1, 5, 0] rfl)
set_option maxRecDepth 100000 in
set_option maxHeartbeats 4000000 in
theorem wX8_uses_104 {z : Nat} {N : Nat} {r : Int32} {T : zS} (X : zX D cy p s m meth c cX8_uses 7 RX8 (some .int)) {K37 : zS × Nat × Int32 × Int32 × Int32 × Int32 → Option (Int32 × zS)} (hK37 : ∀ (S : zS) (x0 : Nat) (x1 : Int32) (x3 : Int32) (x4 : Int32) (x5 : Int32), K37 (S, x0, x1, x3, x4, x5) = some (r, T) → zWt D cy A p l e { frames := 2, cells := 0, slots := 0, locals := 43 } s m args below meth c z 0 0 0 0 (zQ D cy A T z (some (.int r))) S 7 37 [(0, .ref x0), (1, .int x1), (3, .int x3), (4, .int x4), (5, .int x5)] []) {K46 : zS × Nat × Int32 × Int32 × Int32 × Int32 × Int32 → Option (Int32 × zS)} (hK46 : ∀ (S : zS) (x0 : Nat) (x1 : Int32) (x3 : Int32) (x4 : Int32) (x5 : Int32) (x6 : Int32), K46 (S, x0, x1, x3, x4, x5, x6) = some (r, T) → zWt D cy A p l e { frames := 2, cells := 0, slots := 0, locals := 43 } s m args below meth c z 0 0 0 0 (zQ D cy A T z (some (.int r))) S 7 46 [(0, .ref x0), (1, .int x1), (3, .int x3), (4, .int x4), (5, .int x5), (6, .int x6)] []) {S : zS} {x0 : Nat} {x1 : Int32} {x3 : Int32} {x5 : Int32} {x6 : Int32} {y0 : Int32} (h : fX8_uses_104 N K37 K46 S x0 x1 x3 x5 x6 y0 = some (r, T)) : zWt D cy A p l e { frames := 2, cells := 0, slots := 0, locals := 43 } s m args below meth c z 0 0 0 0 (zQ D cy A T z (some (.int r))) S 7 104 [(0, .ref x0), (1, .int x1), (3, .int x3), (5, .int x5), (6, .int x6)] [.int y0] := by
  obtain ⟨hx, hb, hml, hown, hr, hlocks, hT⟩ := id X
  intro H locs ls hH hS hl
  unfold fX8_uses_104 at h
  refine lv_iconst (v := (0 : Int32)) hx hb dX8_uses_104 (by decide) ?_
  exact wX8_uses_105 X hK37 hK46 h _ _ _ hH hS (lv_sub hl [0, 1, 2, 3, 4] rfl)
set_option maxRecDepth 100000 in
set_option maxHeartbeats 4000000 in
theorem wX8_uses_46 {z : Nat} {N : Nat} {r : Int32} {T : zS} (X : zX D cy p s m meth c cX8_uses 7 RX8 (some .int)) {K37 : zS × Nat × Int32 × Int32 × Int32 × Int32 → Option (Int32 × zS)} (hK37 : ∀ (S : zS) (x0 : Nat) (x1 : Int32) (x3 : Int32) (x4 : Int32) (x5 : Int32), K37 (S, x0, x1, x3, x4, x5) = some (r, T) → zWt D cy A p l e { frames := 2, cells := 0, slots := 0, locals := 43 } s m args below meth c z 0 0 0 0 (zQ D cy A T z (some (.int r))) S 7 37 [(0, .ref x0), (1, .int x1), (3, .int x3), (4, .int x4), (5, .int x5)] []) {K46 : zS × Nat × Int32 × Int32 × Int32 × Int32 × Int32 → Option (Int32 × zS)} (hK46 : ∀ (S : zS) (x0 : Nat) (x1 : Int32) (x3 : Int32) (x4 : Int32) (x5 : Int32) (x6 : Int32), K46 (S, x0, x1, x3, x4, x5, x6) = some (r, T) → zWt D cy A p l e { frames := 2, cells := 0, slots := 0, locals := 43 } s m args below meth c z 0 0 0 0 (zQ D cy A T z (some (.int r))) S 7 46 [(0, .ref x0), (1, .int x1), (3, .int x3), (4, .int x4), (5, .int x5), (6, .int x6)] []) {S : zS} {x0 : Nat} {x1 : Int32} {x3 : Int32} {x4 : Int32} {x5 : Int32} {x6 : Int32} (h : fX8_uses_46 N K37 K46 S x0 x1 x3 x4 x5 x6 = some (r, T)) : zWt D cy A p l e { frames := 2, cells := 0, slots := 0, locals := 43 } s m args below meth c z 0 0 0 0 (zQ D cy A T z (some (.int r))) S 7 46 [(0, .ref x0), (1, .int x1), (3, .int x3), (4, .int x4), (5, .int x5), (6, .int x6)] [] := by
  obtain ⟨hx, hb, hml, hown, hr, hlocks, hT⟩ := id X
  intro H locs ls hH hS hl
  unfold fX8_uses_46 at h
  refine lv_iload hx hb dX8_uses_46 (lv_at hl 5 rfl) ?_
  refine lv_aload_n hx hb dX8_uses_48 rfl (lv_at hl 0 rfl) ?_
  obtain ⟨v1, ev1, h⟩ := zb_some h
  refine z_getr X flX8_35 hH ev1 dX8_uses_49 ?_
  refine lv_iload hx hb dX8_uses_52 (lv_at hl 4 rfl) ?_
  obtain ⟨v2, ev2, h⟩ := zb_some h
  refine z_iald X hH ev2 dX8_uses_54 ?_
  refine lv_icmp_ge (tgt := 114) hx hb dX8_uses_55 (by decide) (fun c => ?_) (fun c => ?_)
  · have h := (if_pos c).symm.trans h
    refine lv_iinc (v := (x5 + (1 : Int32))) (lv' := [(5, .int (x5 + (1 : Int32))), (0, .ref x0), (1, .int x1), (3, .int x3), (4, .int x4), (6, .int x6)]) hx hb dX8_uses_114 hl (k := 4) rfl (z_ii (by decide) _) (by decide) rfl (fun ls hl => ?_)
    refine lv_goto (tgt := 37) hx hb dX8_uses_117 (by decide) ?_
    exact hK37 _ _ _ _ _ _ h _ _ _ hH hS (lv_sub hl [1, 2, 3, 4, 0] rfl)
  · have h := (if_neg c).symm.trans h
    refine lv_iload hx hb dX8_uses_58 (lv_at hl 3 rfl) ?_
    refine lv_iload_n hx hb dX8_uses_60 rfl (lv_at hl 2 rfl) ?_
    refine lv_iload hx hb dX8_uses_61 (lv_at hl 4 rfl) ?_
    refine lv_ishr hx hb dX8_uses_63 ?_
    refine lv_iconst (v := (1 : Int32)) hx hb dX8_uses_64 (by decide) ?_
    refine lv_iand hx hb dX8_uses_65 ?_
    refine lv_iconst (v := (1 : Int32)) hx hb dX8_uses_66 (by decide) ?_
    refine lv_icmp_ne (tgt := 104) hx hb dX8_uses_67 (by decide) (fun c => ?_) (fun c => ?_)
    · have h := (if_neg c).symm.trans h
      exact wX8_uses_104 X hK37 hK46 h _ _ _ hH hS (lv_sub hl [0, 1, 2, 4, 5] rfl)
    · have h := (if_pos c).symm.trans h
      refine lv_aload_n hx hb dX8_uses_70 rfl (lv_at hl 0 rfl) ?_
      obtain ⟨v3, ev3, h⟩ := zb_some h
      refine z_getr X flX8_38 hH ev3 dX8_uses_71 ?_
      refine lv_iconst (v := (4 : Int32)) hx hb dX8_uses_74 (by decide) ?_
      refine lv_iload hx hb dX8_uses_75 (lv_at hl 4 rfl) ?_
      refine lv_imul hx hb dX8_uses_77 ?_
      refine lv_iload hx hb dX8_uses_78 (lv_at hl 5 rfl) ?_
      refine lv_iadd hx hb dX8_uses_80 ?_
      obtain ⟨v4, ev4, h⟩ := zb_some h
      refine z_iald X hH ev4 dX8_uses_81 ?_
      refine lv_bipush (v := (100 : Int32)) hx hb dX8_uses_82 (by decide) ?_
      refine lv_icmp_ge (tgt := 104) hx hb dX8_uses_84 (by decide) (fun c => ?_) (fun c => ?_)
      · have h := (if_pos c).symm.trans h
        exact wX8_uses_104 X hK37 hK46 h _ _ _ hH hS (lv_sub hl [0, 1, 2, 4, 5] rfl)
      · have h := (if_neg c).symm.trans h
        refine lv_iconst (v := (1 : Int32)) hx hb dX8_uses_87 (by decide) ?_
        refine lv_aload_n hx hb dX8_uses_88 rfl (lv_at hl 0 rfl) ?_
        obtain ⟨v5, ev5, h⟩ := zb_some h
        refine z_getr X flX8_38 hH ev5 dX8_uses_89 ?_
        refine lv_iconst (v := (4 : Int32)) hx hb dX8_uses_92 (by decide) ?_
        refine lv_iload hx hb dX8_uses_93 (lv_at hl 4 rfl) ?_
        refine lv_imul hx hb dX8_uses_95 ?_
        refine lv_iload hx hb dX8_uses_96 (lv_at hl 5 rfl) ?_
        refine lv_iadd hx hb dX8_uses_98 ?_
        obtain ⟨v6, ev6, h⟩ := zb_some h
        refine z_iald X hH ev6 dX8_uses_99 ?_
        refine lv_ishl hx hb dX8_uses_100 ?_
        refine lv_goto (tgt := 105) hx hb dX8_uses_101 (by decide) ?_
        exact wX8_uses_105 X hK37 hK46 h _ _ _ hH hS (lv_sub hl [0, 1, 2, 4, 5] rfl)
set_option maxRecDepth 100000 in
set_option maxHeartbeats 4000000 in
theorem uX8_uses_46 {z : Nat} {N : Nat} {r : Int32} {T : zS} (X : zX D cy p s m meth c cX8_uses 7 RX8 (some .int)) {K37 : zS × Nat × Int32 × Int32 × Int32 × Int32 → Option (Int32 × zS)} (hK37 : ∀ (S : zS) (x0 : Nat) (x1 : Int32) (x3 : Int32) (x4 : Int32) (x5 : Int32), K37 (S, x0, x1, x3, x4, x5) = some (r, T) → zWt D cy A p l e { frames := 2, cells := 0, slots := 0, locals := 43 } s m args below meth c z 0 0 0 0 (zQ D cy A T z (some (.int r))) S 7 37 [(0, .ref x0), (1, .int x1), (3, .int x3), (4, .int x4), (5, .int x5)] []) {S : zS} {x0 : Nat} {x1 : Int32} {x3 : Int32} {x4 : Int32} {x5 : Int32} {x6 : Int32} (h : lX8_uses_46 N K37 S x0 x1 x3 x4 x5 x6 = some (r, T)) : zWt D cy A p l e { frames := 2, cells := 0, slots := 0, locals := 43 } s m args below meth c z 0 0 0 0 (zQ D cy A T z (some (.int r))) S 7 46 [(0, .ref x0), (1, .int x1), (3, .int x3), (4, .int x4), (5, .int x5), (6, .int x6)] [] := by
  unfold lX8_uses_46 at h
  refine zloop_ind (P := fun y => zWt D cy A p l e { frames := 2, cells := 0, slots := 0, locals := 43 } s m args below meth c z 0 0 0 0 (zQ D cy A T z (some (.int r))) y.1 7 46 [(0, .ref y.2.1), (1, .int y.2.2.1), (3, .int y.2.2.2.1), (4, .int y.2.2.2.2.1), (5, .int y.2.2.2.2.2.1), (6, .int y.2.2.2.2.2.2)] []) ?_ N (S, x0, x1, x3, x4, x5, x6) h
  intro K hK y hy
  obtain ⟨S, x0, x1, x3, x4, x5, x6⟩ := y
  exact wX8_uses_46 X hK37 (fun S x0 x1 x3 x4 x5 x6 hq => hK (S, x0, x1, x3, x4, x5, x6) hq) hy
set_option maxRecDepth 100000 in
set_option maxHeartbeats 4000000 in
theorem wX8_uses_37 {z : Nat} {N : Nat} {r : Int32} {T : zS} (X : zX D cy p s m meth c cX8_uses 7 RX8 (some .int)) {K37 : zS × Nat × Int32 × Int32 × Int32 × Int32 → Option (Int32 × zS)} (hK37 : ∀ (S : zS) (x0 : Nat) (x1 : Int32) (x3 : Int32) (x4 : Int32) (x5 : Int32), K37 (S, x0, x1, x3, x4, x5) = some (r, T) → zWt D cy A p l e { frames := 2, cells := 0, slots := 0, locals := 43 } s m args below meth c z 0 0 0 0 (zQ D cy A T z (some (.int r))) S 7 37 [(0, .ref x0), (1, .int x1), (3, .int x3), (4, .int x4), (5, .int x5)] []) {S : zS} {x0 : Nat} {x1 : Int32} {x3 : Int32} {x4 : Int32} {x5 : Int32} (h : fX8_uses_37 N K37 S x0 x1 x3 x4 x5 = some (r, T)) : zWt D cy A p l e { frames := 2, cells := 0, slots := 0, locals := 43 } s m args below meth c z 0 0 0 0 (zQ D cy A T z (some (.int r))) S 7 37 [(0, .ref x0), (1, .int x1), (3, .int x3), (4, .int x4), (5, .int x5)] [] := by
  obtain ⟨hx, hb, hml, hown, hr, hlocks, hT⟩ := id X
  intro H locs ls hH hS hl
  unfold fX8_uses_37 at h
  refine lv_iload hx hb dX8_uses_37 (lv_at hl 4 rfl) ?_
  refine lv_iload_n hx hb dX8_uses_39 rfl (lv_at hl 1 rfl) ?_
  refine lv_icmp_gt (tgt := 120) hx hb dX8_uses_40 (by decide) (fun c => ?_) (fun c => ?_)
  · have h := (if_pos c).symm.trans h
    refine lv_iload hx hb dX8_uses_120 (lv_at hl 3 rfl) ?_
    exact z_iret X hH hS h dX8_uses_122
  · have h := (if_neg c).symm.trans h
    refine lv_iconst (v := (0 : Int32)) hx hb dX8_uses_43 (by decide) ?_
    refine lv_istore (lv' := [(6, .int (0 : Int32)), (0, .ref x0), (1, .int x1), (3, .int x3), (4, .int x4), (5, .int x5)]) hx hb dX8_uses_44 hl (by decide) rfl (fun ls hl => ?_)
    exact uX8_uses_46 X hK37 h _ _ _ hH hS (lv_sub hl [1, 2, 3, 4, 5, 0] rfl)
set_option maxRecDepth 100000 in
set_option maxHeartbeats 4000000 in
theorem uX8_uses_37 {z : Nat} {N : Nat} {r : Int32} {T : zS} (X : zX D cy p s m meth c cX8_uses 7 RX8 (some .int))  {S : zS} {x0 : Nat} {x1 : Int32} {x3 : Int32} {x4 : Int32} {x5 : Int32} (h : lX8_uses_37 N S x0 x1 x3 x4 x5 = some (r, T)) : zWt D cy A p l e { frames := 2, cells := 0, slots := 0, locals := 43 } s m args below meth c z 0 0 0 0 (zQ D cy A T z (some (.int r))) S 7 37 [(0, .ref x0), (1, .int x1), (3, .int x3), (4, .int x4), (5, .int x5)] [] := by
  unfold lX8_uses_37 at h
  refine zloop_ind (P := fun y => zWt D cy A p l e { frames := 2, cells := 0, slots := 0, locals := 43 } s m args below meth c z 0 0 0 0 (zQ D cy A T z (some (.int r))) y.1 7 37 [(0, .ref y.2.1), (1, .int y.2.2.1), (3, .int y.2.2.2.1), (4, .int y.2.2.2.2.1), (5, .int y.2.2.2.2.2)] []) ?_ N (S, x0, x1, x3, x4, x5) h
  intro K hK y hy
  obtain ⟨S, x0, x1, x3, x4, x5⟩ := y
  exact wX8_uses_37 X (fun S x0 x1 x3 x4 x5 hq => hK (S, x0, x1, x3, x4, x5) hq) hy
set_option maxRecDepth 100000 in
set_option maxHeartbeats 4000000 in
theorem wX8_uses_17 {z : Nat} {N : Nat} {r : Int32} {T : zS} (X : zX D cy p s m meth c cX8_uses 7 RX8 (some .int))  {S : zS} (h : fX8_uses_17 N S = some (r, T)) : zWt D cy A p l e { frames := 2, cells := 0, slots := 0, locals := 43 } s m args below meth c z 0 0 0 0 (zQ D cy A T z (some (.int r))) S 7 17 [] [] := by
  obtain ⟨hx, hb, hml, hown, hr, hlocks, hT⟩ := id X
  intro H locs ls hH hS hl
  unfold fX8_uses_17 at h
  refine lv_iconst (v := (-1 : Int32)) hx hb dX8_uses_17 (by decide) ?_
  exact z_iret X hH hS h dX8_uses_18
set_option maxRecDepth 100000 in
set_option maxHeartbeats 4000000 in
theorem wX8_uses_0 {z : Nat} {N : Nat} {r : Int32} {T : zS} (X : zX D cy p s m meth c cX8_uses 7 RX8 (some .int))  {S : zS} {x0 : Nat} {x1 : Int32} {x2 : Int32} (h : fX8_uses_0 N S x0 x1 x2 = some (r, T)) : zWt D cy A p l e { frames := 2, cells := 0, slots := 0, locals := 43 } s m args below meth c z 0 0 0 0 (zQ D cy A T z (some (.int r))) S 7 0 [(0, .ref x0), (1, .int x1), (2, .int x2)] [] := by
  obtain ⟨hx, hb, hml, hown, hr, hlocks, hT⟩ := id X
  intro H locs ls hH hS hl
  unfold fX8_uses_0 at h
  refine lv_aload_n hx hb dX8_uses_0 rfl (lv_at hl 0 rfl) ?_
  refine lv_iload_n hx hb dX8_uses_1 rfl (lv_at hl 1 rfl) ?_
  obtain ⟨u7, eu7, h⟩ := zb_some h
  obtain ⟨v9, S8, eS8, h⟩ := zb2_some h
  refine z_cV (As := [.int x1]) X hl hH hS mlX8_126 eu7 (kX8_isStep eS8) rfl rfl (Nat.le_of_ble_eq_true rfl) ⟨rfl, rfl, Nat.le_of_ble_eq_true rfl, Nat.le_of_ble_eq_true rfl⟩ ⟨Nat.le_refl _, Nat.le_refl _⟩ dX8_uses_2 (fun H locs hH hS => ?_)
  refine lv_if_eq (tgt := 17) hx hb dX8_uses_5 (by decide) (fun c => ?_) (fun c => ?_)
  · have h := (if_pos c).symm.trans h
    exact wX8_uses_17 X h _ _ _ hH hS (lv_sub hl [] rfl)
  · have h := (if_neg c).symm.trans h
    refine lv_iload_n hx hb dX8_uses_8 rfl (lv_at hl 2 rfl) ?_
    refine lv_iconst (v := (0 : Int32)) hx hb dX8_uses_9 (by decide) ?_
    refine lv_iconst (v := (1 : Int32)) hx hb dX8_uses_10 (by decide) ?_
    obtain ⟨v11, S10, eS10, h⟩ := zb2_some h
    refine z_cS (As := [.int x2, .int (0 : Int32), .int (1 : Int32)]) X hl hH hS mlX8_99 (kX8_in eS10) rfl rfl (Nat.le_of_ble_eq_true rfl) ⟨rfl, rfl, Nat.le_of_ble_eq_true rfl, Nat.le_of_ble_eq_true rfl⟩ ⟨Nat.le_refl _, Nat.le_refl _⟩ dX8_uses_11 (fun H locs hH hS => ?_)
    refine lv_if_ne (tgt := 19) hx hb dX8_uses_14 (by decide) (fun c => ?_) (fun c => ?_)
    · have h := (if_neg c).symm.trans h
      refine lv_aload_n hx hb dX8_uses_19 rfl (lv_at hl 0 rfl) ?_
      refine lv_iload_n hx hb dX8_uses_20 rfl (lv_at hl 1 rfl) ?_
      obtain ⟨u12, eu12, h⟩ := zb_some h
      obtain ⟨v14, S13, eS13, h⟩ := zb2_some h
      refine z_cV (As := [.int x1]) X hl hH hS mlX8_172 eu12 (kX8_usedBy eS13) rfl rfl (Nat.le_of_ble_eq_true rfl) ⟨rfl, rfl, Nat.le_of_ble_eq_true rfl, Nat.le_of_ble_eq_true rfl⟩ ⟨Nat.le_refl _, Nat.le_refl _⟩ dX8_uses_21 (fun H locs hH hS => ?_)
      refine lv_istore_n (lv' := [(3, .int v14), (0, .ref x0), (1, .int x1), (2, .int x2)]) hx hb dX8_uses_24 rfl hl (by decide) rfl (fun ls hl => ?_)
      refine lv_iload_n hx hb dX8_uses_25 rfl (lv_at hl 3 rfl) ?_
      refine lv_if_ne (tgt := 31) hx hb dX8_uses_26 (by decide) (fun c => ?_) (fun c => ?_)
      · have h := (if_neg c).symm.trans h
        refine lv_iconst (v := (0 : Int32)) hx hb dX8_uses_31 (by decide) ?_
        refine lv_istore (lv' := [(4, .int (0 : Int32)), (3, .int v14), (0, .ref x0), (1, .int x1), (2, .int x2)]) hx hb dX8_uses_32 hl (by decide) rfl (fun ls hl => ?_)
        refine lv_iconst (v := (0 : Int32)) hx hb dX8_uses_34 (by decide) ?_
        refine lv_istore (lv' := [(5, .int (0 : Int32)), (4, .int (0 : Int32)), (3, .int v14), (0, .ref x0), (1, .int x1), (2, .int x2)]) hx hb dX8_uses_35 hl (by decide) rfl (fun ls hl => ?_)
        exact uX8_uses_37 X h _ _ _ hH hS (lv_sub hl [3, 4, 2, 1, 0] rfl)
      · have h := (if_pos c).symm.trans h
        refine lv_iload_n hx hb dX8_uses_29 rfl (lv_at hl 0 rfl) ?_
        exact z_iret X hH hS h dX8_uses_30
    · have h := (if_pos c).symm.trans h
      exact wX8_uses_17 X h _ _ _ hH hS (lv_sub hl [] rfl)
set_option maxRecDepth 100000 in
theorem kX8_uses {N : Nat} {r : Int32} {T : zS} {S : zS} {z : Nat} {x0 : Nat} {x1 : Int32} {x2 : Int32} (h : fX8_uses N S x0 x1 x2 = some (r, T)) : Met l yX8_uses [.code yX8_uses cX8_uses 7 (some .int)] { frames := 2, cells := 0, slots := 0, locals := 43 } (zP D cy A S z [.ref x0, .int x1, .int x2]) (zQ D cy A T z (some (.int r))) 0 0 A := by
  refine z_met (lv := [(0, .ref x0), (1, .int x1), (2, .int x2)]) (by decide) (Nat.le_of_ble_eq_true rfl) rfl ?_
  intro p e s m below meth c X H locs ls hH hS hl
  exact wX8_uses_0 X h _ _ _ hH hS (lv_sub hl [0, 1, 2] rfl)
set_option maxRecDepth 100000 in
set_option maxHeartbeats 4000000 in
theorem wX8_bits_4 {z : Nat} {N : Nat} {r : Int32} {T : zS} (X : zX D cy p s m meth c cX8_bits 3 RX8 (some .int)) {K4 : zS × Int32 × Int32 → Option (Int32 × zS)} (hK4 : ∀ (S : zS) (x1 : Int32) (x2 : Int32), K4 (S, x1, x2) = some (r, T) → zWt D cy A p l e { frames := 0, cells := 0, slots := 0, locals := 0 } s m args below meth c z 0 0 0 0 (zQ D cy A T z (some (.int r))) S 3 4 [(1, .int x1), (2, .int x2)] []) {S : zS} {x1 : Int32} {x2 : Int32} (h : fX8_bits_4 N K4 S x1 x2 = some (r, T)) : zWt D cy A p l e { frames := 0, cells := 0, slots := 0, locals := 0 } s m args below meth c z 0 0 0 0 (zQ D cy A T z (some (.int r))) S 3 4 [(1, .int x1), (2, .int x2)] [] := by
  obtain ⟨hx, hb, hml, hown, hr, hlocks, hT⟩ := id X
  intro H locs ls hH hS hl
  unfold fX8_bits_4 at h
  refine lv_iload_n hx hb dX8_bits_4 rfl (lv_at hl 1 rfl) ?_
  refine lv_if_eq (tgt := 20) hx hb dX8_bits_5 (by decide) (fun c => ?_) (fun c => ?_)
  · have h := (if_pos c).symm.trans h
    refine lv_iload_n hx hb dX8_bits_20 rfl (lv_at hl 0 rfl) ?_
    exact z_iret X hH hS h dX8_bits_21
  · have h := (if_neg c).symm.trans h
    refine lv_iinc (v := (x1 + (1 : Int32))) (lv' := [(1, .int (x1 + (1 : Int32))), (2, .int x2)]) hx hb dX8_bits_8 hl (k := 0) rfl (z_ii (by decide) _) (by decide) rfl (fun ls hl => ?_)
    refine lv_iload_n hx hb dX8_bits_11 rfl (lv_at hl 1 rfl) ?_
    refine lv_iload_n hx hb dX8_bits_12 rfl (lv_at hl 1 rfl) ?_
    refine lv_iconst (v := (1 : Int32)) hx hb dX8_bits_13 (by decide) ?_
    refine lv_isub hx hb dX8_bits_14 ?_
    refine lv_iand hx hb dX8_bits_15 ?_
    refine lv_istore_n (lv' := [(2, .int (x2 &&& (x2 - (1 : Int32)))), (1, .int (x1 + (1 : Int32)))]) hx hb dX8_bits_16 rfl hl (by decide) rfl (fun ls hl => ?_)
    refine lv_goto (tgt := 4) hx hb dX8_bits_17 (by decide) ?_
    exact hK4 _ _ _ h _ _ _ hH hS (lv_sub hl [1, 0] rfl)
set_option maxRecDepth 100000 in
set_option maxHeartbeats 4000000 in
theorem uX8_bits_4 {z : Nat} {N : Nat} {r : Int32} {T : zS} (X : zX D cy p s m meth c cX8_bits 3 RX8 (some .int))  {S : zS} {x1 : Int32} {x2 : Int32} (h : lX8_bits_4 N S x1 x2 = some (r, T)) : zWt D cy A p l e { frames := 0, cells := 0, slots := 0, locals := 0 } s m args below meth c z 0 0 0 0 (zQ D cy A T z (some (.int r))) S 3 4 [(1, .int x1), (2, .int x2)] [] := by
  unfold lX8_bits_4 at h
  refine zloop_ind (P := fun y => zWt D cy A p l e { frames := 0, cells := 0, slots := 0, locals := 0 } s m args below meth c z 0 0 0 0 (zQ D cy A T z (some (.int r))) y.1 3 4 [(1, .int y.2.1), (2, .int y.2.2)] []) ?_ N (S, x1, x2) h
  intro K hK y hy
  obtain ⟨S, x1, x2⟩ := y
  exact wX8_bits_4 X (fun S x1 x2 hq => hK (S, x1, x2) hq) hy
set_option maxRecDepth 100000 in
set_option maxHeartbeats 4000000 in
theorem wX8_bits_0 {z : Nat} {N : Nat} {r : Int32} {T : zS} (X : zX D cy p s m meth c cX8_bits 3 RX8 (some .int))  {S : zS} {x0 : Int32} (h : fX8_bits_0 N S x0 = some (r, T)) : zWt D cy A p l e { frames := 0, cells := 0, slots := 0, locals := 0 } s m args below meth c z 0 0 0 0 (zQ D cy A T z (some (.int r))) S 3 0 [(0, .int x0)] [] := by
  obtain ⟨hx, hb, hml, hown, hr, hlocks, hT⟩ := id X
  intro H locs ls hH hS hl
  unfold fX8_bits_0 at h
  refine lv_iconst (v := (0 : Int32)) hx hb dX8_bits_0 (by decide) ?_
  refine lv_istore_n (lv' := [(1, .int (0 : Int32)), (0, .int x0)]) hx hb dX8_bits_1 rfl hl (by decide) rfl (fun ls hl => ?_)
  refine lv_iload_n hx hb dX8_bits_2 rfl (lv_at hl 1 rfl) ?_
  refine lv_istore_n (lv' := [(2, .int x0), (1, .int (0 : Int32)), (0, .int x0)]) hx hb dX8_bits_3 rfl hl (by decide) rfl (fun ls hl => ?_)
  exact uX8_bits_4 X h _ _ _ hH hS (lv_sub hl [1, 0] rfl)
set_option maxRecDepth 100000 in
theorem kX8_bits {N : Nat} {r : Int32} {T : zS} {S : zS} {z : Nat} {x0 : Int32} (h : fX8_bits N S x0 = some (r, T)) : Met l yX8_bits [.code yX8_bits cX8_bits 3 (some .int)] { frames := 0, cells := 0, slots := 0, locals := 0 } (zP D cy A S z [.int x0]) (zQ D cy A T z (some (.int r))) 0 0 A := by
  refine z_met (lv := [(0, .int x0)]) (by decide) (Nat.le_of_ble_eq_true rfl) rfl ?_
  intro p e s m below meth c X H locs ls hH hS hl
  exact wX8_bits_0 X h _ _ _ hH hS (lv_sub hl [0] rfl)
set_option maxRecDepth 100000 in
set_option maxHeartbeats 4000000 in
theorem wX8_orders_234 {z : Nat} {N : Nat} {r : Int64} {T : zS} (X : zX D cy p s m meth c cX8_orders 7 RX8 (some .long)) {K159 : zS × Nat × Int32 × Int32 → Option (Int64 × zS)} (hK159 : ∀ (S : zS) (x0 : Nat) (x3 : Int32) (x4 : Int32), K159 (S, x0, x3, x4) = some (r, T) → zWt D cy A p l e { frames := 2, cells := 0, slots := 0, locals := 43 } s m args below meth c z 0 0 0 0 (zQ D cy A T z (some (.long r))) S 7 159 [(0, .ref x0), (3, .int x3), (4, .int x4)] []) {K178 : zS × Nat × Int32 × Int32 × Int32 → Option (Int64 × zS)} (hK178 : ∀ (S : zS) (x0 : Nat) (x3 : Int32) (x4 : Int32) (x5 : Int32), K178 (S, x0, x3, x4, x5) = some (r, T) → zWt D cy A p l e { frames := 2, cells := 0, slots := 0, locals := 43 } s m args below meth c z 0 0 0 0 (zQ D cy A T z (some (.long r))) S 7 178 [(0, .ref x0), (3, .int x3), (4, .int x4), (5, .int x5)] []) {S : zS} {x0 : Nat} {x3 : Int32} {x4 : Int32} {x5 : Int32} (h : fX8_orders_234 N K159 K178 S x0 x3 x4 x5 = some (r, T)) : zWt D cy A p l e { frames := 2, cells := 0, slots := 0, locals := 43 } s m args below meth c z 0 0 0 0 (zQ D cy A T z (some (.long r))) S 7 234 [(0, .ref x0), (3, .int x3), (4, .int x4), (5, .int x5)] [] := by
  obtain ⟨hx, hb, hml, hown, hr, hlocks, hT⟩ := id X
  intro H locs ls hH hS hl
  unfold fX8_orders_234 at h
  refine lv_iinc (v := (x5 + (1 : Int32))) (lv' := [(5, .int (x5 + (1 : Int32))), (0, .ref x0), (3, .int x3), (4, .int x4)]) hx hb dX8_orders_234 hl (k := 3) rfl (z_ii (by decide) _) (by decide) rfl (fun ls hl => ?_)
  refine lv_goto (tgt := 178) hx hb dX8_orders_237 (by decide) ?_
  exact hK178 _ _ _ _ _ h _ _ _ hH hS (lv_sub hl [1, 2, 3, 0] rfl)
set_option maxRecDepth 100000 in
set_option maxHeartbeats 4000000 in
theorem wX8_orders_178 {z : Nat} {N : Nat} {r : Int64} {T : zS} (X : zX D cy p s m meth c cX8_orders 7 RX8 (some .long)) {K159 : zS × Nat × Int32 × Int32 → Option (Int64 × zS)} (hK159 : ∀ (S : zS) (x0 : Nat) (x3 : Int32) (x4 : Int32), K159 (S, x0, x3, x4) = some (r, T) → zWt D cy A p l e { frames := 2, cells := 0, slots := 0, locals := 43 } s m args below meth c z 0 0 0 0 (zQ D cy A T z (some (.long r))) S 7 159 [(0, .ref x0), (3, .int x3), (4, .int x4)] []) {K178 : zS × Nat × Int32 × Int32 × Int32 → Option (Int64 × zS)} (hK178 : ∀ (S : zS) (x0 : Nat) (x3 : Int32) (x4 : Int32) (x5 : Int32), K178 (S, x0, x3, x4, x5) = some (r, T) → zWt D cy A p l e { frames := 2, cells := 0, slots := 0, locals := 43 } s m args below meth c z 0 0 0 0 (zQ D cy A T z (some (.long r))) S 7 178 [(0, .ref x0), (3, .int x3), (4, .int x4), (5, .int x5)] []) {S : zS} {x0 : Nat} {x3 : Int32} {x4 : Int32} {x5 : Int32} (h : fX8_orders_178 N K159 K178 S x0 x3 x4 x5 = some (r, T)) : zWt D cy A p l e { frames := 2, cells := 0, slots := 0, locals := 43 } s m args below meth c z 0 0 0 0 (zQ D cy A T z (some (.long r))) S 7 178 [(0, .ref x0), (3, .int x3), (4, .int x4), (5, .int x5)] [] := by
  obtain ⟨hx, hb, hml, hown, hr, hlocks, hT⟩ := id X
  intro H locs ls hH hS hl
  unfold fX8_orders_178 at h
  refine lv_iload hx hb dX8_orders_178 (lv_at hl 3 rfl) ?_
  refine lv_iload_n hx hb dX8_orders_180 rfl (lv_at hl 1 rfl) ?_
  refine lv_icmp_ge (tgt := 240) hx hb dX8_orders_181 (by decide) (fun c => ?_) (fun c => ?_)
  · have h := (if_pos c).symm.trans h
    refine lv_iinc (v := (x4 + (1 : Int32))) (lv' := [(4, .int (x4 + (1 : Int32))), (0, .ref x0), (3, .int x3), (5, .int x5)]) hx hb dX8_orders_240 hl (k := 2) rfl (z_ii (by decide) _) (by decide) rfl (fun ls hl => ?_)
    refine lv_goto (tgt := 159) hx hb dX8_orders_243 (by decide) ?_
    exact hK159 _ _ _ _ h _ _ _ hH hS (lv_sub hl [1, 2, 0] rfl)
  · have h := (if_neg c).symm.trans h
    refine lv_iload hx hb dX8_orders_184 (lv_at hl 2 rfl) ?_
    refine lv_iconst (v := (1 : Int32)) hx hb dX8_orders_186 (by decide) ?_
    refine lv_iload hx hb dX8_orders_187 (lv_at hl 3 rfl) ?_
    refine lv_ishl hx hb dX8_orders_189 ?_
    refine lv_iconst (v := (-1 : Int32)) hx hb dX8_orders_190 (by decide) ?_
    refine lv_ixor hx hb dX8_orders_191 ?_
    refine lv_iand hx hb dX8_orders_192 ?_
    refine lv_topi (fun v1 ev1 => ?_)
    have h := zlet_at ev1 h
    refine lv_istore (lv' := [(6, .int v1), (0, .ref x0), (3, .int x3), (4, .int x4), (5, .int x5)]) hx hb dX8_orders_193 hl (by decide) rfl (fun ls hl => ?_)
    refine lv_iload hx hb dX8_orders_195 (lv_at hl 0 rfl) ?_
    refine lv_iload hx hb dX8_orders_197 (lv_at hl 3 rfl) ?_
    refine lv_icmp_eq (tgt := 234) hx hb dX8_orders_199 (by decide) (fun c => ?_) (fun c => ?_)
    · have h := (if_pos c).symm.trans h
      exact wX8_orders_234 X hK159 hK178 h _ _ _ hH hS (lv_sub hl [1, 2, 3, 4] rfl)
    · have h := (if_neg c).symm.trans h
      refine lv_aload_n hx hb dX8_orders_202 rfl (lv_at hl 1 rfl) ?_
      obtain ⟨v2, ev2, h⟩ := zb_some h
      refine z_getr X flX8_59 hH ev2 dX8_orders_203 ?_
      refine lv_iload hx hb dX8_orders_206 (lv_at hl 4 rfl) ?_
      obtain ⟨v3, ev3, h⟩ := zb_some h
      refine z_iald X hH ev3 dX8_orders_208 ?_
      refine lv_iload hx hb dX8_orders_209 (lv_at hl 0 rfl) ?_
      refine lv_iconst (v := (-1 : Int32)) hx hb dX8_orders_211 (by decide) ?_
      refine lv_ixor hx hb dX8_orders_212 ?_
      refine lv_iand hx hb dX8_orders_213 ?_
      refine lv_if_ne (tgt := 234) hx hb dX8_orders_214 (by decide) (fun c => ?_) (fun c => ?_)
      · have h := (if_neg c).symm.trans h
        exact wX8_orders_234 X hK159 hK178 h _ _ _ hH hS (lv_sub hl [1, 2, 3, 4] rfl)
      · have h := (if_pos c).symm.trans h
        refine lv_aload_n hx hb dX8_orders_217 rfl (lv_at hl 1 rfl) ?_
        obtain ⟨v4, ev4, h⟩ := zb_some h
        refine z_getr X flX8_63 hH ev4 dX8_orders_218 ?_
        refine lv_iload hx hb dX8_orders_221 (lv_at hl 3 rfl) ?_
        refine lv_dup2_11 hx hb dX8_orders_223 rfl rfl ?_
        obtain ⟨v5, ev5, h⟩ := zb_some h
        refine z_lald X hH ev5 dX8_orders_224 ?_
        refine lv_aload_n hx hb dX8_orders_225 rfl (lv_at hl 1 rfl) ?_
        obtain ⟨v6, ev6, h⟩ := zb_some h
        refine z_getr X flX8_63 hH ev6 dX8_orders_226 ?_
        refine lv_iload hx hb dX8_orders_229 (lv_at hl 0 rfl) ?_
        obtain ⟨v7, ev7, h⟩ := zb_some h
        refine z_lald X hH ev7 dX8_orders_231 ?_
        refine lv_ladd hx hb dX8_orders_232 ?_
        obtain ⟨S8, eS8, h⟩ := zb_some h
        refine z_last X hH hS eS8 dX8_orders_233 (fun H locs hH hS => ?_)
        exact wX8_orders_234 X hK159 hK178 h _ _ _ hH hS (lv_sub hl [1, 2, 3, 4] rfl)
set_option maxRecDepth 100000 in
set_option maxHeartbeats 4000000 in
theorem uX8_orders_178 {z : Nat} {N : Nat} {r : Int64} {T : zS} (X : zX D cy p s m meth c cX8_orders 7 RX8 (some .long)) {K159 : zS × Nat × Int32 × Int32 → Option (Int64 × zS)} (hK159 : ∀ (S : zS) (x0 : Nat) (x3 : Int32) (x4 : Int32), K159 (S, x0, x3, x4) = some (r, T) → zWt D cy A p l e { frames := 2, cells := 0, slots := 0, locals := 43 } s m args below meth c z 0 0 0 0 (zQ D cy A T z (some (.long r))) S 7 159 [(0, .ref x0), (3, .int x3), (4, .int x4)] []) {S : zS} {x0 : Nat} {x3 : Int32} {x4 : Int32} {x5 : Int32} (h : lX8_orders_178 N K159 S x0 x3 x4 x5 = some (r, T)) : zWt D cy A p l e { frames := 2, cells := 0, slots := 0, locals := 43 } s m args below meth c z 0 0 0 0 (zQ D cy A T z (some (.long r))) S 7 178 [(0, .ref x0), (3, .int x3), (4, .int x4), (5, .int x5)] [] := by
  unfold lX8_orders_178 at h
  refine zloop_ind (P := fun y => zWt D cy A p l e { frames := 2, cells := 0, slots := 0, locals := 43 } s m args below meth c z 0 0 0 0 (zQ D cy A T z (some (.long r))) y.1 7 178 [(0, .ref y.2.1), (3, .int y.2.2.1), (4, .int y.2.2.2.1), (5, .int y.2.2.2.2)] []) ?_ N (S, x0, x3, x4, x5) h
  intro K hK y hy
  obtain ⟨S, x0, x3, x4, x5⟩ := y
  exact wX8_orders_178 X hK159 (fun S x0 x3 x4 x5 hq => hK (S, x0, x3, x4, x5) hq) hy
set_option maxRecDepth 100000 in
set_option maxHeartbeats 4000000 in
theorem wX8_orders_159 {z : Nat} {N : Nat} {r : Int64} {T : zS} (X : zX D cy p s m meth c cX8_orders 7 RX8 (some .long)) {K159 : zS × Nat × Int32 × Int32 → Option (Int64 × zS)} (hK159 : ∀ (S : zS) (x0 : Nat) (x3 : Int32) (x4 : Int32), K159 (S, x0, x3, x4) = some (r, T) → zWt D cy A p l e { frames := 2, cells := 0, slots := 0, locals := 43 } s m args below meth c z 0 0 0 0 (zQ D cy A T z (some (.long r))) S 7 159 [(0, .ref x0), (3, .int x3), (4, .int x4)] []) {S : zS} {x0 : Nat} {x3 : Int32} {x4 : Int32} (h : fX8_orders_159 N K159 S x0 x3 x4 = some (r, T)) : zWt D cy A p l e { frames := 2, cells := 0, slots := 0, locals := 43 } s m args below meth c z 0 0 0 0 (zQ D cy A T z (some (.long r))) S 7 159 [(0, .ref x0), (3, .int x3), (4, .int x4)] [] := by
  obtain ⟨hx, hb, hml, hown, hr, hlocks, hT⟩ := id X
  intro H locs ls hH hS hl
  unfold fX8_orders_159 at h
  refine lv_iload hx hb dX8_orders_159 (lv_at hl 2 rfl) ?_
  refine lv_iconst (v := (1 : Int32)) hx hb dX8_orders_161 (by decide) ?_
  refine lv_iload_n hx hb dX8_orders_162 rfl (lv_at hl 1 rfl) ?_
  refine lv_ishl hx hb dX8_orders_163 ?_
  refine lv_icmp_ge (tgt := 246) hx hb dX8_orders_164 (by decide) (fun c => ?_) (fun c => ?_)
  · have h := (if_pos c).symm.trans h
    refine lv_aload_n hx hb dX8_orders_246 rfl (lv_at hl 0 rfl) ?_
    obtain ⟨v9, ev9, h⟩ := zb_some h
    refine z_getr X flX8_63 hH ev9 dX8_orders_247 ?_
    refine lv_iconst (v := (1 : Int32)) hx hb dX8_orders_250 (by decide) ?_
    refine lv_iload_n hx hb dX8_orders_251 rfl (lv_at hl 1 rfl) ?_
    refine lv_ishl hx hb dX8_orders_252 ?_
    refine lv_iconst (v := (1 : Int32)) hx hb dX8_orders_253 (by decide) ?_
    refine lv_isub hx hb dX8_orders_254 ?_
    obtain ⟨v10, ev10, h⟩ := zb_some h
    refine z_lald X hH ev10 dX8_orders_255 ?_
    exact z_lret X hH hS h dX8_orders_256
  · have h := (if_neg c).symm.trans h
    refine lv_aload_n hx hb dX8_orders_167 rfl (lv_at hl 0 rfl) ?_
    obtain ⟨v11, ev11, h⟩ := zb_some h
    refine z_getr X flX8_63 hH ev11 dX8_orders_168 ?_
    refine lv_iload hx hb dX8_orders_171 (lv_at hl 2 rfl) ?_
    refine lv_lconst (v := (0 : Int64)) hx hb dX8_orders_173 (by decide) ?_
    obtain ⟨S12, eS12, h⟩ := zb_some h
    refine z_last X hH hS eS12 dX8_orders_174 (fun H locs hH hS => ?_)
    refine lv_iconst (v := (0 : Int32)) hx hb dX8_orders_175 (by decide) ?_
    refine lv_istore (lv' := [(5, .int (0 : Int32)), (0, .ref x0), (3, .int x3), (4, .int x4)]) hx hb dX8_orders_176 hl (by decide) rfl (fun ls hl => ?_)
    exact uX8_orders_178 X hK159 h _ _ _ hH hS (lv_sub hl [1, 2, 3, 0] rfl)
set_option maxRecDepth 100000 in
set_option maxHeartbeats 4000000 in
theorem uX8_orders_159 {z : Nat} {N : Nat} {r : Int64} {T : zS} (X : zX D cy p s m meth c cX8_orders 7 RX8 (some .long))  {S : zS} {x0 : Nat} {x3 : Int32} {x4 : Int32} (h : lX8_orders_159 N S x0 x3 x4 = some (r, T)) : zWt D cy A p l e { frames := 2, cells := 0, slots := 0, locals := 43 } s m args below meth c z 0 0 0 0 (zQ D cy A T z (some (.long r))) S 7 159 [(0, .ref x0), (3, .int x3), (4, .int x4)] [] := by
  unfold lX8_orders_159 at h
  refine zloop_ind (P := fun y => zWt D cy A p l e { frames := 2, cells := 0, slots := 0, locals := 43 } s m args below meth c z 0 0 0 0 (zQ D cy A T z (some (.long r))) y.1 7 159 [(0, .ref y.2.1), (3, .int y.2.2.1), (4, .int y.2.2.2)] []) ?_ N (S, x0, x3, x4) h
  intro K hK y hy
  obtain ⟨S, x0, x3, x4⟩ := y
  exact wX8_orders_159 X (fun S x0 x3 x4 hq => hK (S, x0, x3, x4) hq) hy
set_option maxRecDepth 100000 in
set_option maxHeartbeats 4000000 in
theorem wX8_orders_143 {z : Nat} {N : Nat} {r : Int64} {T : zS} (X : zX D cy p s m meth c cX8_orders 7 RX8 (some .long)) {K38 : zS × Nat × Int32 × Int32 × Int32 × Int32 → Option (Int64 × zS)} (hK38 : ∀ (S : zS) (x0 : Nat) (x1 : Int32) (x2 : Int32) (x3 : Int32) (x4 : Int32), K38 (S, x0, x1, x2, x3, x4) = some (r, T) → zWt D cy A p l e { frames := 2, cells := 0, slots := 0, locals := 43 } s m args below meth c z 0 0 0 0 (zQ D cy A T z (some (.long r))) S 7 38 [(0, .ref x0), (1, .int x1), (2, .int x2), (3, .int x3), (4, .int x4)] []) {S : zS} {x0 : Nat} {x1 : Int32} {x2 : Int32} {x3 : Int32} {x4 : Int32} (h : fX8_orders_143 N K38 S x0 x1 x2 x3 x4 = some (r, T)) : zWt D cy A p l e { frames := 2, cells := 0, slots := 0, locals := 43 } s m args below meth c z 0 0 0 0 (zQ D cy A T z (some (.long r))) S 7 143 [(0, .ref x0), (1, .int x1), (2, .int x2), (3, .int x3), (4, .int x4)] [] := by
  obtain ⟨hx, hb, hml, hown, hr, hlocks, hT⟩ := id X
  intro H locs ls hH hS hl
  unfold fX8_orders_143 at h
  refine lv_iinc (v := (x4 + (1 : Int32))) (lv' := [(4, .int (x4 + (1 : Int32))), (0, .ref x0), (1, .int x1), (2, .int x2), (3, .int x3)]) hx hb dX8_orders_143 hl (k := 4) rfl (z_ii (by decide) _) (by decide) rfl (fun ls hl => ?_)
  refine lv_goto (tgt := 38) hx hb dX8_orders_146 (by decide) ?_
  exact hK38 _ _ _ _ _ _ h _ _ _ hH hS (lv_sub hl [1, 2, 3, 4, 0] rfl)
set_option maxRecDepth 100000 in
set_option maxHeartbeats 4000000 in
theorem wX8_orders_126 {z : Nat} {N : Nat} {r : Int64} {T : zS} (X : zX D cy p s m meth c cX8_orders 7 RX8 (some .long)) {K38 : zS × Nat × Int32 × Int32 × Int32 × Int32 → Option (Int64 × zS)} (hK38 : ∀ (S : zS) (x0 : Nat) (x1 : Int32) (x2 : Int32) (x3 : Int32) (x4 : Int32), K38 (S, x0, x1, x2, x3, x4) = some (r, T) → zWt D cy A p l e { frames := 2, cells := 0, slots := 0, locals := 43 } s m args below meth c z 0 0 0 0 (zQ D cy A T z (some (.long r))) S 7 38 [(0, .ref x0), (1, .int x1), (2, .int x2), (3, .int x3), (4, .int x4)] []) {K66 : zS × Nat × Int32 × Int32 × Int32 × Int32 × Int32 → Option (Int64 × zS)} (hK66 : ∀ (S : zS) (x0 : Nat) (x1 : Int32) (x2 : Int32) (x3 : Int32) (x4 : Int32) (x5 : Int32), K66 (S, x0, x1, x2, x3, x4, x5) = some (r, T) → zWt D cy A p l e { frames := 2, cells := 0, slots := 0, locals := 43 } s m args below meth c z 0 0 0 0 (zQ D cy A T z (some (.long r))) S 7 66 [(0, .ref x0), (1, .int x1), (2, .int x2), (3, .int x3), (4, .int x4), (5, .int x5)] []) {S : zS} {x0 : Nat} {x1 : Int32} {x2 : Int32} {x3 : Int32} {x4 : Int32} {x5 : Int32} (h : fX8_orders_126 N K38 K66 S x0 x1 x2 x3 x4 x5 = some (r, T)) : zWt D cy A p l e { frames := 2, cells := 0, slots := 0, locals := 43 } s m args below meth c z 0 0 0 0 (zQ D cy A T z (some (.long r))) S 7 126 [(0, .ref x0), (1, .int x1), (2, .int x2), (3, .int x3), (4, .int x4), (5, .int x5)] [] := by
  obtain ⟨hx, hb, hml, hown, hr, hlocks, hT⟩ := id X
  intro H locs ls hH hS hl
  unfold fX8_orders_126 at h
  refine lv_iinc (v := (x5 + (1 : Int32))) (lv' := [(5, .int (x5 + (1 : Int32))), (0, .ref x0), (1, .int x1), (2, .int x2), (3, .int x3), (4, .int x4)]) hx hb dX8_orders_126 hl (k := 5) rfl (z_ii (by decide) _) (by decide) rfl (fun ls hl => ?_)
  refine lv_goto (tgt := 66) hx hb dX8_orders_129 (by decide) ?_
  exact hK66 _ _ _ _ _ _ _ h _ _ _ hH hS (lv_sub hl [1, 2, 3, 4, 5, 0] rfl)
set_option maxRecDepth 100000 in
set_option maxHeartbeats 4000000 in
theorem wX8_orders_66 {z : Nat} {N : Nat} {r : Int64} {T : zS} (X : zX D cy p s m meth c cX8_orders 7 RX8 (some .long)) {K38 : zS × Nat × Int32 × Int32 × Int32 × Int32 → Option (Int64 × zS)} (hK38 : ∀ (S : zS) (x0 : Nat) (x1 : Int32) (x2 : Int32) (x3 : Int32) (x4 : Int32), K38 (S, x0, x1, x2, x3, x4) = some (r, T) → zWt D cy A p l e { frames := 2, cells := 0, slots := 0, locals := 43 } s m args below meth c z 0 0 0 0 (zQ D cy A T z (some (.long r))) S 7 38 [(0, .ref x0), (1, .int x1), (2, .int x2), (3, .int x3), (4, .int x4)] []) {K66 : zS × Nat × Int32 × Int32 × Int32 × Int32 × Int32 → Option (Int64 × zS)} (hK66 : ∀ (S : zS) (x0 : Nat) (x1 : Int32) (x2 : Int32) (x3 : Int32) (x4 : Int32) (x5 : Int32), K66 (S, x0, x1, x2, x3, x4, x5) = some (r, T) → zWt D cy A p l e { frames := 2, cells := 0, slots := 0, locals := 43 } s m args below meth c z 0 0 0 0 (zQ D cy A T z (some (.long r))) S 7 66 [(0, .ref x0), (1, .int x1), (2, .int x2), (3, .int x3), (4, .int x4), (5, .int x5)] []) {S : zS} {x0 : Nat} {x1 : Int32} {x2 : Int32} {x3 : Int32} {x4 : Int32} {x5 : Int32} (h : fX8_orders_66 N K38 K66 S x0 x1 x2 x3 x4 x5 = some (r, T)) : zWt D cy A p l e { frames := 2, cells := 0, slots := 0, locals := 43 } s m args below meth c z 0 0 0 0 (zQ D cy A T z (some (.long r))) S 7 66 [(0, .ref x0), (1, .int x1), (2, .int x2), (3, .int x3), (4, .int x4), (5, .int x5)] [] := by
  obtain ⟨hx, hb, hml, hown, hr, hlocks, hT⟩ := id X
  intro H locs ls hH hS hl
  unfold fX8_orders_66 at h
  refine lv_iload hx hb dX8_orders_66 (lv_at hl 5 rfl) ?_
  refine lv_aload_n hx hb dX8_orders_68 rfl (lv_at hl 0 rfl) ?_
  obtain ⟨v13, ev13, h⟩ := zb_some h
  refine z_getr X flX8_35 hH ev13 dX8_orders_69 ?_
  refine lv_iload hx hb dX8_orders_72 (lv_at hl 4 rfl) ?_
  obtain ⟨v14, ev14, h⟩ := zb_some h
  refine z_iald X hH ev14 dX8_orders_74 ?_
  refine lv_icmp_ge (tgt := 132) hx hb dX8_orders_75 (by decide) (fun c => ?_) (fun c => ?_)
  · have h := (if_pos c).symm.trans h
    refine lv_aload_n hx hb dX8_orders_132 rfl (lv_at hl 0 rfl) ?_
    obtain ⟨v15, ev15, h⟩ := zb_some h
    refine z_getr X flX8_56 hH ev15 dX8_orders_133 ?_
    refine lv_iload hx hb dX8_orders_136 (lv_at hl 4 rfl) ?_
    refine lv_iload_n hx hb dX8_orders_138 rfl (lv_at hl 3 rfl) ?_
    obtain ⟨S16, eS16, h⟩ := zb_some h
    refine z_iast X hH hS eS16 dX8_orders_139 (fun H locs hH hS => ?_)
    refine lv_iinc (v := (x3 + (1 : Int32))) (lv' := [(3, .int (x3 + (1 : Int32))), (0, .ref x0), (1, .int x1), (2, .int x2), (4, .int x4), (5, .int x5)]) hx hb dX8_orders_140 hl (k := 3) rfl (z_ii (by decide) _) (by decide) rfl (fun ls hl => ?_)
    exact wX8_orders_143 X hK38 h _ _ _ hH hS (lv_sub hl [1, 2, 3, 0, 4] rfl)
  · have h := (if_neg c).symm.trans h
    refine lv_aload_n hx hb dX8_orders_78 rfl (lv_at hl 0 rfl) ?_
    obtain ⟨v17, ev17, h⟩ := zb_some h
    refine z_getr X flX8_38 hH ev17 dX8_orders_79 ?_
    refine lv_iconst (v := (4 : Int32)) hx hb dX8_orders_82 (by decide) ?_
    refine lv_iload hx hb dX8_orders_83 (lv_at hl 4 rfl) ?_
    refine lv_imul hx hb dX8_orders_85 ?_
    refine lv_iload hx hb dX8_orders_86 (lv_at hl 5 rfl) ?_
    refine lv_iadd hx hb dX8_orders_88 ?_
    obtain ⟨v18, ev18, h⟩ := zb_some h
    refine z_iald X hH ev18 dX8_orders_89 ?_
    refine lv_bipush (v := (100 : Int32)) hx hb dX8_orders_90 (by decide) ?_
    refine lv_icmp_lt (tgt := 126) hx hb dX8_orders_92 (by decide) (fun c => ?_) (fun c => ?_)
    · have h := (if_pos c).symm.trans h
      exact wX8_orders_126 X hK38 hK66 h _ _ _ hH hS (lv_sub hl [0, 1, 2, 3, 4, 5] rfl)
    · have h := (if_neg c).symm.trans h
      refine lv_aload_n hx hb dX8_orders_95 rfl (lv_at hl 0 rfl) ?_
      obtain ⟨v19, ev19, h⟩ := zb_some h
      refine z_getr X flX8_59 hH ev19 dX8_orders_96 ?_
      refine lv_iload_n hx hb dX8_orders_99 rfl (lv_at hl 3 rfl) ?_
      refine lv_dup2_11 hx hb dX8_orders_100 rfl rfl ?_
      obtain ⟨v20, ev20, h⟩ := zb_some h
      refine z_iald X hH ev20 dX8_orders_101 ?_
      refine lv_iconst (v := (1 : Int32)) hx hb dX8_orders_102 (by decide) ?_
      refine lv_aload_n hx hb dX8_orders_103 rfl (lv_at hl 0 rfl) ?_
      obtain ⟨v21, ev21, h⟩ := zb_some h
      refine z_getr X flX8_56 hH ev21 dX8_orders_104 ?_
      refine lv_aload_n hx hb dX8_orders_107 rfl (lv_at hl 0 rfl) ?_
      obtain ⟨v22, ev22, h⟩ := zb_some h
      refine z_getr X flX8_38 hH ev22 dX8_orders_108 ?_
      refine lv_iconst (v := (4 : Int32)) hx hb dX8_orders_111 (by decide) ?_
      refine lv_iload hx hb dX8_orders_112 (lv_at hl 4 rfl) ?_
      refine lv_imul hx hb dX8_orders_114 ?_
      refine lv_iload hx hb dX8_orders_115 (lv_at hl 5 rfl) ?_
      refine lv_iadd hx hb dX8_orders_117 ?_
      obtain ⟨v23, ev23, h⟩ := zb_some h
      refine z_iald X hH ev23 dX8_orders_118 ?_
      refine lv_bipush (v := (100 : Int32)) hx hb dX8_orders_119 (by decide) ?_
      refine lv_isub hx hb dX8_orders_121 ?_
      obtain ⟨v24, ev24, h⟩ := zb_some h
      refine z_iald X hH ev24 dX8_orders_122 ?_
      refine lv_ishl hx hb dX8_orders_123 ?_
      refine lv_ior hx hb dX8_orders_124 ?_
      obtain ⟨S25, eS25, h⟩ := zb_some h
      refine z_iast X hH hS eS25 dX8_orders_125 (fun H locs hH hS => ?_)
      exact wX8_orders_126 X hK38 hK66 h _ _ _ hH hS (lv_sub hl [0, 1, 2, 3, 4, 5] rfl)
set_option maxRecDepth 100000 in
set_option maxHeartbeats 4000000 in
theorem uX8_orders_66 {z : Nat} {N : Nat} {r : Int64} {T : zS} (X : zX D cy p s m meth c cX8_orders 7 RX8 (some .long)) {K38 : zS × Nat × Int32 × Int32 × Int32 × Int32 → Option (Int64 × zS)} (hK38 : ∀ (S : zS) (x0 : Nat) (x1 : Int32) (x2 : Int32) (x3 : Int32) (x4 : Int32), K38 (S, x0, x1, x2, x3, x4) = some (r, T) → zWt D cy A p l e { frames := 2, cells := 0, slots := 0, locals := 43 } s m args below meth c z 0 0 0 0 (zQ D cy A T z (some (.long r))) S 7 38 [(0, .ref x0), (1, .int x1), (2, .int x2), (3, .int x3), (4, .int x4)] []) {S : zS} {x0 : Nat} {x1 : Int32} {x2 : Int32} {x3 : Int32} {x4 : Int32} {x5 : Int32} (h : lX8_orders_66 N K38 S x0 x1 x2 x3 x4 x5 = some (r, T)) : zWt D cy A p l e { frames := 2, cells := 0, slots := 0, locals := 43 } s m args below meth c z 0 0 0 0 (zQ D cy A T z (some (.long r))) S 7 66 [(0, .ref x0), (1, .int x1), (2, .int x2), (3, .int x3), (4, .int x4), (5, .int x5)] [] := by
  unfold lX8_orders_66 at h
  refine zloop_ind (P := fun y => zWt D cy A p l e { frames := 2, cells := 0, slots := 0, locals := 43 } s m args below meth c z 0 0 0 0 (zQ D cy A T z (some (.long r))) y.1 7 66 [(0, .ref y.2.1), (1, .int y.2.2.1), (2, .int y.2.2.2.1), (3, .int y.2.2.2.2.1), (4, .int y.2.2.2.2.2.1), (5, .int y.2.2.2.2.2.2)] []) ?_ N (S, x0, x1, x2, x3, x4, x5) h
  intro K hK y hy
  obtain ⟨S, x0, x1, x2, x3, x4, x5⟩ := y
  exact wX8_orders_66 X hK38 (fun S x0 x1 x2 x3 x4 x5 hq => hK (S, x0, x1, x2, x3, x4, x5) hq) hy
set_option maxRecDepth 100000 in
set_option maxHeartbeats 4000000 in
theorem wX8_orders_38 {z : Nat} {N : Nat} {r : Int64} {T : zS} (X : zX D cy p s m meth c cX8_orders 7 RX8 (some .long)) {K38 : zS × Nat × Int32 × Int32 × Int32 × Int32 → Option (Int64 × zS)} (hK38 : ∀ (S : zS) (x0 : Nat) (x1 : Int32) (x2 : Int32) (x3 : Int32) (x4 : Int32), K38 (S, x0, x1, x2, x3, x4) = some (r, T) → zWt D cy A p l e { frames := 2, cells := 0, slots := 0, locals := 43 } s m args below meth c z 0 0 0 0 (zQ D cy A T z (some (.long r))) S 7 38 [(0, .ref x0), (1, .int x1), (2, .int x2), (3, .int x3), (4, .int x4)] []) {S : zS} {x0 : Nat} {x1 : Int32} {x2 : Int32} {x3 : Int32} {x4 : Int32} (h : fX8_orders_38 N K38 S x0 x1 x2 x3 x4 = some (r, T)) : zWt D cy A p l e { frames := 2, cells := 0, slots := 0, locals := 43 } s m args below meth c z 0 0 0 0 (zQ D cy A T z (some (.long r))) S 7 38 [(0, .ref x0), (1, .int x1), (2, .int x2), (3, .int x3), (4, .int x4)] [] := by
  obtain ⟨hx, hb, hml, hown, hr, hlocks, hT⟩ := id X
  intro H locs ls hH hS hl
  unfold fX8_orders_38 at h
  refine lv_iload hx hb dX8_orders_38 (lv_at hl 4 rfl) ?_
  refine lv_iload_n hx hb dX8_orders_40 rfl (lv_at hl 1 rfl) ?_
  refine lv_icmp_gt (tgt := 149) hx hb dX8_orders_41 (by decide) (fun c => ?_) (fun c => ?_)
  · have h := (if_pos c).symm.trans h
    refine lv_aload_n hx hb dX8_orders_149 rfl (lv_at hl 0 rfl) ?_
    obtain ⟨v26, ev26, h⟩ := zb_some h
    refine z_getr X flX8_63 hH ev26 dX8_orders_150 ?_
    refine lv_iconst (v := (0 : Int32)) hx hb dX8_orders_153 (by decide) ?_
    refine lv_lconst (v := (1 : Int64)) hx hb dX8_orders_154 (by decide) ?_
    obtain ⟨S27, eS27, h⟩ := zb_some h
    refine z_last X hH hS eS27 dX8_orders_155 (fun H locs hH hS => ?_)
    refine lv_iconst (v := (1 : Int32)) hx hb dX8_orders_156 (by decide) ?_
    refine lv_istore (lv' := [(4, .int (1 : Int32)), (0, .ref x0), (1, .int x1), (2, .int x2), (3, .int x3)]) hx hb dX8_orders_157 hl (by decide) rfl (fun ls hl => ?_)
    exact uX8_orders_159 X h _ _ _ hH hS (lv_sub hl [1, 4, 0] rfl)
  · have h := (if_neg c).symm.trans h
    refine lv_iload_n hx hb dX8_orders_44 rfl (lv_at hl 2 rfl) ?_
    refine lv_iload hx hb dX8_orders_45 (lv_at hl 4 rfl) ?_
    refine lv_ishr hx hb dX8_orders_47 ?_
    refine lv_iconst (v := (1 : Int32)) hx hb dX8_orders_48 (by decide) ?_
    refine lv_iand hx hb dX8_orders_49 ?_
    refine lv_if_ne (tgt := 56) hx hb dX8_orders_50 (by decide) (fun c => ?_) (fun c => ?_)
    · have h := (if_neg c).symm.trans h
      refine lv_aload_n hx hb dX8_orders_56 rfl (lv_at hl 0 rfl) ?_
      obtain ⟨v28, ev28, h⟩ := zb_some h
      refine z_getr X flX8_59 hH ev28 dX8_orders_57 ?_
      refine lv_iload_n hx hb dX8_orders_60 rfl (lv_at hl 3 rfl) ?_
      refine lv_iconst (v := (0 : Int32)) hx hb dX8_orders_61 (by decide) ?_
      obtain ⟨S29, eS29, h⟩ := zb_some h
      refine z_iast X hH hS eS29 dX8_orders_62 (fun H locs hH hS => ?_)
      refine lv_iconst (v := (0 : Int32)) hx hb dX8_orders_63 (by decide) ?_
      refine lv_istore (lv' := [(5, .int (0 : Int32)), (0, .ref x0), (1, .int x1), (2, .int x2), (3, .int x3), (4, .int x4)]) hx hb dX8_orders_64 hl (by decide) rfl (fun ls hl => ?_)
      exact uX8_orders_66 X hK38 h _ _ _ hH hS (lv_sub hl [1, 2, 3, 4, 5, 0] rfl)
    · have h := (if_pos c).symm.trans h
      refine lv_goto (tgt := 143) hx hb dX8_orders_53 (by decide) ?_
      exact wX8_orders_143 X hK38 h _ _ _ hH hS (lv_sub hl [0, 1, 2, 3, 4] rfl)
set_option maxRecDepth 100000 in
set_option maxHeartbeats 4000000 in
theorem uX8_orders_38 {z : Nat} {N : Nat} {r : Int64} {T : zS} (X : zX D cy p s m meth c cX8_orders 7 RX8 (some .long))  {S : zS} {x0 : Nat} {x1 : Int32} {x2 : Int32} {x3 : Int32} {x4 : Int32} (h : lX8_orders_38 N S x0 x1 x2 x3 x4 = some (r, T)) : zWt D cy A p l e { frames := 2, cells := 0, slots := 0, locals := 43 } s m args below meth c z 0 0 0 0 (zQ D cy A T z (some (.long r))) S 7 38 [(0, .ref x0), (1, .int x1), (2, .int x2), (3, .int x3), (4, .int x4)] [] := by
  unfold lX8_orders_38 at h
  refine zloop_ind (P := fun y => zWt D cy A p l e { frames := 2, cells := 0, slots := 0, locals := 43 } s m args below meth c z 0 0 0 0 (zQ D cy A T z (some (.long r))) y.1 7 38 [(0, .ref y.2.1), (1, .int y.2.2.1), (2, .int y.2.2.2.1), (3, .int y.2.2.2.2.1), (4, .int y.2.2.2.2.2)] []) ?_ N (S, x0, x1, x2, x3, x4) h
  intro K hK y hy
  obtain ⟨S, x0, x1, x2, x3, x4⟩ := y
  exact wX8_orders_38 X (fun S x0 x1 x2 x3 x4 hq => hK (S, x0, x1, x2, x3, x4) hq) hy
set_option maxRecDepth 100000 in
set_option maxHeartbeats 4000000 in
theorem wX8_orders_0 {z : Nat} {N : Nat} {r : Int64} {T : zS} (X : zX D cy p s m meth c cX8_orders 7 RX8 (some .long))  {S : zS} {x0 : Nat} {x1 : Int32} (h : fX8_orders_0 N S x0 x1 = some (r, T)) : zWt D cy A p l e { frames := 2, cells := 0, slots := 0, locals := 43 } s m args below meth c z 0 0 0 0 (zQ D cy A T z (some (.long r))) S 7 0 [(0, .ref x0), (1, .int x1)] [] := by
  obtain ⟨hx, hb, hml, hown, hr, hlocks, hT⟩ := id X
  intro H locs ls hH hS hl
  unfold fX8_orders_0 at h
  refine lv_aload_n hx hb dX8_orders_0 rfl (lv_at hl 0 rfl) ?_
  refine lv_iload_n hx hb dX8_orders_1 rfl (lv_at hl 1 rfl) ?_
  obtain ⟨u30, eu30, h⟩ := zb_some h
  obtain ⟨v32, S31, eS31, h⟩ := zb2_some h
  refine z_cV (As := [.int x1]) X hl hH hS mlX8_126 eu30 (kX8_isStep eS31) rfl rfl (Nat.le_of_ble_eq_true rfl) ⟨rfl, rfl, Nat.le_of_ble_eq_true rfl, Nat.le_of_ble_eq_true rfl⟩ ⟨Nat.le_refl _, Nat.le_refl _⟩ dX8_orders_2 (fun H locs hH hS => ?_)
  refine lv_if_ne (tgt := 12) hx hb dX8_orders_5 (by decide) (fun c => ?_) (fun c => ?_)
  · have h := (if_neg c).symm.trans h
    refine lv_aload_n hx hb dX8_orders_12 rfl (lv_at hl 0 rfl) ?_
    refine lv_iload_n hx hb dX8_orders_13 rfl (lv_at hl 1 rfl) ?_
    obtain ⟨u33, eu33, h⟩ := zb_some h
    obtain ⟨v35, S34, eS34, h⟩ := zb2_some h
    refine z_cV (As := [.int x1]) X hl hH hS mlX8_172 eu33 (kX8_usedBy eS34) rfl rfl (Nat.le_of_ble_eq_true rfl) ⟨rfl, rfl, Nat.le_of_ble_eq_true rfl, Nat.le_of_ble_eq_true rfl⟩ ⟨Nat.le_refl _, Nat.le_refl _⟩ dX8_orders_14 (fun H locs hH hS => ?_)
    refine lv_istore_n (lv' := [(2, .int v35), (0, .ref x0), (1, .int x1)]) hx hb dX8_orders_17 rfl hl (by decide) rfl (fun ls hl => ?_)
    refine lv_iload_n hx hb dX8_orders_18 rfl (lv_at hl 0 rfl) ?_
    obtain ⟨v37, S36, eS36, h⟩ := zb2_some h
    refine z_cS (As := [.int v35]) X hl hH hS mlX8_184 (kX8_bits eS36) rfl rfl (Nat.le_of_ble_eq_true rfl) ⟨rfl, rfl, Nat.le_of_ble_eq_true rfl, Nat.le_of_ble_eq_true rfl⟩ ⟨Nat.le_refl _, Nat.le_refl _⟩ dX8_orders_19 (fun H locs hH hS => ?_)
    refine lv_istore_n (lv' := [(3, .int v37), (2, .int v35), (0, .ref x0), (1, .int x1)]) hx hb dX8_orders_22 rfl hl (by decide) rfl (fun ls hl => ?_)
    refine lv_iload_n hx hb dX8_orders_23 rfl (lv_at hl 0 rfl) ?_
    refine lv_bipush (v := (16 : Int32)) hx hb dX8_orders_24 (by decide) ?_
    refine lv_icmp_le (tgt := 33) hx hb dX8_orders_26 (by decide) (fun c => ?_) (fun c => ?_)
    · have h := (if_pos c).symm.trans h
      refine lv_iconst (v := (0 : Int32)) hx hb dX8_orders_33 (by decide) ?_
      refine lv_istore_n (lv' := [(3, .int (0 : Int32)), (2, .int v35), (0, .ref x0), (1, .int x1)]) hx hb dX8_orders_34 rfl hl (by decide) rfl (fun ls hl => ?_)
      refine lv_iconst (v := (0 : Int32)) hx hb dX8_orders_35 (by decide) ?_
      refine lv_istore (lv' := [(4, .int (0 : Int32)), (3, .int (0 : Int32)), (2, .int v35), (0, .ref x0), (1, .int x1)]) hx hb dX8_orders_36 hl (by decide) rfl (fun ls hl => ?_)
      exact uX8_orders_38 X h _ _ _ hH hS (lv_sub hl [3, 4, 2, 1, 0] rfl)
    · have h := (if_neg c).symm.trans h
      refine lv_ldc2 (v := (-4 : Int64)) hx hb hown (X.ts _ ctX8_187) dX8_orders_29 ?_
      exact z_lret X hH hS h dX8_orders_32
  · have h := (if_pos c).symm.trans h
    refine lv_ldc2 (v := (-1 : Int64)) hx hb hown (X.ts _ ctX8_182) dX8_orders_8 ?_
    exact z_lret X hH hS h dX8_orders_11
set_option maxRecDepth 100000 in
theorem kX8_orders {N : Nat} {r : Int64} {T : zS} {S : zS} {z : Nat} {x0 : Nat} {x1 : Int32} (h : fX8_orders N S x0 x1 = some (r, T)) : Met l yX8_orders [.code yX8_orders cX8_orders 7 (some .long)] { frames := 2, cells := 0, slots := 0, locals := 43 } (zP D cy A S z [.ref x0, .int x1]) (zQ D cy A T z (some (.long r))) 0 0 A := by
  refine z_met (lv := [(0, .ref x0), (1, .int x1)]) (by decide) (Nat.le_of_ble_eq_true rfl) rfl ?_
  intro p e s m below meth c X H locs ls hH hS hl
  exact wX8_orders_0 X h _ _ _ hH hS (lv_sub hl [0, 1] rfl)
set_option maxRecDepth 100000 in
set_option maxHeartbeats 4000000 in
theorem wX8_built_53 {z : Nat} {N : Nat} {r : Int32} {T : zS} (X : zX D cy p s m meth c cX8_built 4 RX8 (some .int)) {K29 : zS × Nat × Int32 × Int32 → Option (Int32 × zS)} (hK29 : ∀ (S : zS) (x0 : Nat) (x2 : Int32) (x3 : Int32), K29 (S, x0, x2, x3) = some (r, T) → zWt D cy A p l e { frames := 5, cells := 0, slots := 0, locals := 119 } s m args below meth c z 0 0 0 0 (zQ D cy A T z (some (.int r))) S 4 29 [(0, .ref x0), (2, .int x2), (3, .int x3)] []) {S : zS} {x0 : Nat} {x3 : Int32} {y0 : Int32} {y1 : Int32} (h : fX8_built_53 N K29 S x0 x3 y0 y1 = some (r, T)) : zWt D cy A p l e { frames := 5, cells := 0, slots := 0, locals := 119 } s m args below meth c z 0 0 0 0 (zQ D cy A T z (some (.int r))) S 4 53 [(0, .ref x0), (3, .int x3)] [.int y1, .int y0] := by
  obtain ⟨hx, hb, hml, hown, hr, hlocks, hT⟩ := id X
  intro H locs ls hH hS hl
  unfold fX8_built_53 at h
  refine lv_iadd hx hb dX8_built_53 ?_
  refine lv_istore_n (lv' := [(2, .int (y0 + y1)), (0, .ref x0), (3, .int x3)]) hx hb dX8_built_54 rfl hl (by decide) rfl (fun ls hl => ?_)
  refine lv_iinc (v := (x3 + (1 : Int32))) (lv' := [(3, .int (x3 + (1 : Int32))), (2, .int (y0 + y1)), (0, .ref x0)]) hx hb dX8_built_55 hl (k := 2) rfl (z_ii (by decide) _) (by decide) rfl (fun ls hl => ?_)
  refine lv_goto (tgt := 29) hx hb dX8_built_58 (by decide) ?_
  exact hK29 _ _ _ _ h _ _ _ hH hS (lv_sub hl [2, 1, 0] rfl)
set_option maxRecDepth 100000 in
set_option maxHeartbeats 4000000 in
theorem wX8_built_29 {z : Nat} {N : Nat} {r : Int32} {T : zS} (X : zX D cy p s m meth c cX8_built 4 RX8 (some .int)) {K29 : zS × Nat × Int32 × Int32 → Option (Int32 × zS)} (hK29 : ∀ (S : zS) (x0 : Nat) (x2 : Int32) (x3 : Int32), K29 (S, x0, x2, x3) = some (r, T) → zWt D cy A p l e { frames := 5, cells := 0, slots := 0, locals := 119 } s m args below meth c z 0 0 0 0 (zQ D cy A T z (some (.int r))) S 4 29 [(0, .ref x0), (2, .int x2), (3, .int x3)] []) {S : zS} {x0 : Nat} {x2 : Int32} {x3 : Int32} (h : fX8_built_29 N K29 S x0 x2 x3 = some (r, T)) : zWt D cy A p l e { frames := 5, cells := 0, slots := 0, locals := 119 } s m args below meth c z 0 0 0 0 (zQ D cy A T z (some (.int r))) S 4 29 [(0, .ref x0), (2, .int x2), (3, .int x3)] [] := by
  obtain ⟨hx, hb, hml, hown, hr, hlocks, hT⟩ := id X
  intro H locs ls hH hS hl
  unfold fX8_built_29 at h
  refine lv_iload_n hx hb dX8_built_29 rfl (lv_at hl 2 rfl) ?_
  refine lv_aload_n hx hb dX8_built_30 rfl (lv_at hl 0 rfl) ?_
  obtain ⟨v1, ev1, h⟩ := zb_some h
  refine z_geti X flX8_113 hH ev1 dX8_built_31 ?_
  refine lv_icmp_ge (tgt := 61) hx hb dX8_built_34 (by decide) (fun c => ?_) (fun c => ?_)
  · have h := (if_pos c).symm.trans h
    refine lv_iload_n hx hb dX8_built_61 rfl (lv_at hl 1 rfl) ?_
    exact z_iret X hH hS h dX8_built_62
  · have h := (if_neg c).symm.trans h
    refine lv_iload_n hx hb dX8_built_37 rfl (lv_at hl 1 rfl) ?_
    refine lv_aload_n hx hb dX8_built_38 rfl (lv_at hl 0 rfl) ?_
    obtain ⟨v2, ev2, h⟩ := zb_some h
    refine z_getr X flX8_44 hH ev2 dX8_built_39 ?_
    refine lv_iload_n hx hb dX8_built_42 rfl (lv_at hl 2 rfl) ?_
    obtain ⟨v3, ev3, h⟩ := zb_some h
    refine z_iald X hH ev3 dX8_built_43 ?_
    refine lv_iconst (v := (-1 : Int32)) hx hb dX8_built_44 (by decide) ?_
    refine lv_icmp_ne (tgt := 52) hx hb dX8_built_45 (by decide) (fun c => ?_) (fun c => ?_)
    · have h := (if_neg c).symm.trans h
      refine lv_iconst (v := (1 : Int32)) hx hb dX8_built_52 (by decide) ?_
      exact wX8_built_53 X hK29 h _ _ _ hH hS (lv_sub hl [0, 2] rfl)
    · have h := (if_pos c).symm.trans h
      refine lv_iconst (v := (0 : Int32)) hx hb dX8_built_48 (by decide) ?_
      refine lv_goto (tgt := 53) hx hb dX8_built_49 (by decide) ?_
      exact wX8_built_53 X hK29 h _ _ _ hH hS (lv_sub hl [0, 2] rfl)
set_option maxRecDepth 100000 in
set_option maxHeartbeats 4000000 in
theorem uX8_built_29 {z : Nat} {N : Nat} {r : Int32} {T : zS} (X : zX D cy p s m meth c cX8_built 4 RX8 (some .int))  {S : zS} {x0 : Nat} {x2 : Int32} {x3 : Int32} (h : lX8_built_29 N S x0 x2 x3 = some (r, T)) : zWt D cy A p l e { frames := 5, cells := 0, slots := 0, locals := 119 } s m args below meth c z 0 0 0 0 (zQ D cy A T z (some (.int r))) S 4 29 [(0, .ref x0), (2, .int x2), (3, .int x3)] [] := by
  unfold lX8_built_29 at h
  refine zloop_ind (P := fun y => zWt D cy A p l e { frames := 5, cells := 0, slots := 0, locals := 119 } s m args below meth c z 0 0 0 0 (zQ D cy A T z (some (.int r))) y.1 4 29 [(0, .ref y.2.1), (2, .int y.2.2.1), (3, .int y.2.2.2)] []) ?_ N (S, x0, x2, x3) h
  intro K hK y hy
  obtain ⟨S, x0, x2, x3⟩ := y
  exact wX8_built_29 X (fun S x0 x2 x3 hq => hK (S, x0, x2, x3) hq) hy
set_option maxRecDepth 100000 in
set_option maxHeartbeats 4000000 in
theorem wX8_built_0 {z : Nat} {N : Nat} {r : Int32} {T : zS} (X : zX D cy p s m meth c cX8_built 4 RX8 (some .int))  {S : zS} {x0 : Nat} {x1 : Int32} (h : fX8_built_0 N S x0 x1 = some (r, T)) : zWt D cy A p l e { frames := 5, cells := 0, slots := 0, locals := 119 } s m args below meth c z 0 0 0 0 (zQ D cy A T z (some (.int r))) S 4 0 [(0, .ref x0), (1, .int x1)] [] := by
  obtain ⟨hx, hb, hml, hown, hr, hlocks, hT⟩ := id X
  intro H locs ls hH hS hl
  unfold fX8_built_0 at h
  refine lv_iload_n hx hb dX8_built_0 rfl (lv_at hl 1 rfl) ?_
  obtain ⟨v5, S4, eS4, h⟩ := zb2_some h
  refine z_cS (As := [.int x1]) X hl hH hS mlX8_120 (kX8_isRoom eS4) rfl rfl (Nat.le_of_ble_eq_true rfl) ⟨rfl, rfl, Nat.le_of_ble_eq_true rfl, Nat.le_of_ble_eq_true rfl⟩ ⟨Nat.le_refl _, Nat.le_refl _⟩ dX8_built_1 (fun H locs hH hS => ?_)
  refine lv_if_ne (tgt := 9) hx hb dX8_built_4 (by decide) (fun c => ?_) (fun c => ?_)
  · have h := (if_neg c).symm.trans h
    refine lv_aload_n hx hb dX8_built_9 rfl (lv_at hl 0 rfl) ?_
    refine lv_iload_n hx hb dX8_built_10 rfl (lv_at hl 1 rfl) ?_
    obtain ⟨u6, eu6, h⟩ := zb_some h
    obtain ⟨S7, eS7, h⟩ := zb_some h
    refine z_cV (As := [.int x1]) X hl hH hS mlX8_166 eu6 (kX8_take eS7) rfl rfl (Nat.le_of_ble_eq_true rfl) ⟨rfl, rfl, Nat.le_of_ble_eq_true rfl, Nat.le_of_ble_eq_true rfl⟩ ⟨Nat.le_refl _, Nat.le_refl _⟩ dX8_built_11 (fun H locs hH hS => ?_)
    refine lv_aload_n hx hb dX8_built_14 rfl (lv_at hl 0 rfl) ?_
    refine lv_iconst (v := (0 : Int32)) hx hb dX8_built_15 (by decide) ?_
    refine lv_aload_n hx hb dX8_built_16 rfl (lv_at hl 0 rfl) ?_
    obtain ⟨v8, ev8, h⟩ := zb_some h
    refine z_geti X flX8_113 hH ev8 dX8_built_17 ?_
    refine lv_iconst (v := (1 : Int32)) hx hb dX8_built_20 (by decide) ?_
    refine lv_isub hx hb dX8_built_21 ?_
    obtain ⟨u9, eu9, h⟩ := zb_some h
    obtain ⟨S10, eS10, h⟩ := zb_some h
    refine z_cV (As := [.int (0 : Int32), .int (v8 - (1 : Int32))]) X hl hH hS mlX8_169 eu9 (kX8_build eS10) rfl rfl (Nat.le_of_ble_eq_true rfl) ⟨rfl, rfl, Nat.le_of_ble_eq_true rfl, Nat.le_of_ble_eq_true rfl⟩ ⟨Nat.le_refl _, Nat.le_refl _⟩ dX8_built_22 (fun H locs hH hS => ?_)
    refine lv_iconst (v := (0 : Int32)) hx hb dX8_built_25 (by decide) ?_
    refine lv_istore_n (lv' := [(2, .int (0 : Int32)), (0, .ref x0), (1, .int x1)]) hx hb dX8_built_26 rfl hl (by decide) rfl (fun ls hl => ?_)
    refine lv_iconst (v := (0 : Int32)) hx hb dX8_built_27 (by decide) ?_
    refine lv_istore_n (lv' := [(3, .int (0 : Int32)), (2, .int (0 : Int32)), (0, .ref x0), (1, .int x1)]) hx hb dX8_built_28 rfl hl (by decide) rfl (fun ls hl => ?_)
    exact uX8_built_29 X h _ _ _ hH hS (lv_sub hl [2, 1, 0] rfl)
  · have h := (if_pos c).symm.trans h
    refine lv_iconst (v := (-1 : Int32)) hx hb dX8_built_7 (by decide) ?_
    exact z_iret X hH hS h dX8_built_8
set_option maxRecDepth 100000 in
theorem kX8_built {N : Nat} {r : Int32} {T : zS} {S : zS} {z : Nat} {x0 : Nat} {x1 : Int32} (h : fX8_built N S x0 x1 = some (r, T)) : Met l yX8_built [.code yX8_built cX8_built 4 (some .int)] { frames := 5, cells := 0, slots := 0, locals := 119 } (zP D cy A S z [.ref x0, .int x1]) (zQ D cy A T z (some (.int r))) 0 0 A := by
  refine z_met (lv := [(0, .ref x0), (1, .int x1)]) (by decide) (Nat.le_of_ble_eq_true rfl) rfl ?_
  intro p e s m below meth c X H locs ls hH hS hl
  exact wX8_built_0 X h _ _ _ hH hS (lv_sub hl [0, 1] rfl)
set_option maxRecDepth 100000 in
set_option maxHeartbeats 4000000 in
theorem wX8_alike_44 {z : Nat} {N : Nat} {r : Int32} {T : zS} (X : zX D cy p s m meth c cX8_alike 4 RX8 (some .int))  {S : zS} {y0 : Int32} (h : fX8_alike_44 N S y0 = some (r, T)) : zWt D cy A p l e { frames := 6, cells := 0, slots := 0, locals := 142 } s m args below meth c z 0 0 0 0 (zQ D cy A T z (some (.int r))) S 4 44 [] [.int y0] := by
  obtain ⟨hx, hb, hml, hown, hr, hlocks, hT⟩ := id X
  intro H locs ls hH hS hl
  unfold fX8_alike_44 at h
  exact z_iret X hH hS h dX8_alike_44
set_option maxRecDepth 100000 in
set_option maxHeartbeats 4000000 in
theorem wX8_alike_22 {z : Nat} {N : Nat} {r : Int32} {T : zS} (X : zX D cy p s m meth c cX8_alike 4 RX8 (some .int))  {S : zS} (h : fX8_alike_22 N S = some (r, T)) : zWt D cy A p l e { frames := 6, cells := 0, slots := 0, locals := 142 } s m args below meth c z 0 0 0 0 (zQ D cy A T z (some (.int r))) S 4 22 [] [] := by
  obtain ⟨hx, hb, hml, hown, hr, hlocks, hT⟩ := id X
  intro H locs ls hH hS hl
  unfold fX8_alike_22 at h
  refine lv_iconst (v := (-1 : Int32)) hx hb dX8_alike_22 (by decide) ?_
  exact z_iret X hH hS h dX8_alike_23
set_option maxRecDepth 100000 in
set_option maxHeartbeats 4000000 in
theorem wX8_alike_0 {z : Nat} {N : Nat} {r : Int32} {T : zS} (X : zX D cy p s m meth c cX8_alike 4 RX8 (some .int))  {S : zS} {x0 : Nat} {x1 : Int32} {x2 : Int32} {x3 : Int32} (h : fX8_alike_0 N S x0 x1 x2 x3 = some (r, T)) : zWt D cy A p l e { frames := 6, cells := 0, slots := 0, locals := 142 } s m args below meth c z 0 0 0 0 (zQ D cy A T z (some (.int r))) S 4 0 [(0, .ref x0), (1, .int x1), (2, .int x2), (3, .int x3)] [] := by
  obtain ⟨hx, hb, hml, hown, hr, hlocks, hT⟩ := id X
  intro H locs ls hH hS hl
  unfold fX8_alike_0 at h
  refine lv_iload_n hx hb dX8_alike_0 rfl (lv_at hl 1 rfl) ?_
  obtain ⟨v2, S1, eS1, h⟩ := zb2_some h
  refine z_cS (As := [.int x1]) X hl hH hS mlX8_120 (kX8_isRoom eS1) rfl rfl (Nat.le_of_ble_eq_true rfl) ⟨rfl, rfl, Nat.le_of_ble_eq_true rfl, Nat.le_of_ble_eq_true rfl⟩ ⟨Nat.le_refl _, Nat.le_refl _⟩ dX8_alike_1 (fun H locs hH hS => ?_)
  refine lv_if_eq (tgt := 22) hx hb dX8_alike_4 (by decide) (fun c => ?_) (fun c => ?_)
  · have h := (if_pos c).symm.trans h
    exact wX8_alike_22 X h _ _ _ hH hS (lv_sub hl [] rfl)
  · have h := (if_neg c).symm.trans h
    refine lv_iload_n hx hb dX8_alike_7 rfl (lv_at hl 2 rfl) ?_
    obtain ⟨v4, S3, eS3, h⟩ := zb2_some h
    refine z_cS (As := [.int x2]) X hl hH hS mlX8_120 (kX8_isRoom eS3) rfl rfl (Nat.le_of_ble_eq_true rfl) ⟨rfl, rfl, Nat.le_of_ble_eq_true rfl, Nat.le_of_ble_eq_true rfl⟩ ⟨Nat.le_refl _, Nat.le_refl _⟩ dX8_alike_8 (fun H locs hH hS => ?_)
    refine lv_if_eq (tgt := 22) hx hb dX8_alike_11 (by decide) (fun c => ?_) (fun c => ?_)
    · have h := (if_pos c).symm.trans h
      exact wX8_alike_22 X h _ _ _ hH hS (lv_sub hl [] rfl)
    · have h := (if_neg c).symm.trans h
      refine lv_aload_n hx hb dX8_alike_14 rfl (lv_at hl 0 rfl) ?_
      refine lv_iload_n hx hb dX8_alike_15 rfl (lv_at hl 3 rfl) ?_
      obtain ⟨u5, eu5, h⟩ := zb_some h
      obtain ⟨v7, S6, eS6, h⟩ := zb2_some h
      refine z_cV (As := [.int x3]) X hl hH hS mlX8_126 eu5 (kX8_isStep eS6) rfl rfl (Nat.le_of_ble_eq_true rfl) ⟨rfl, rfl, Nat.le_of_ble_eq_true rfl, Nat.le_of_ble_eq_true rfl⟩ ⟨Nat.le_refl _, Nat.le_refl _⟩ dX8_alike_16 (fun H locs hH hS => ?_)
      refine lv_if_ne (tgt := 24) hx hb dX8_alike_19 (by decide) (fun c => ?_) (fun c => ?_)
      · have h := (if_neg c).symm.trans h
        refine lv_aload_n hx hb dX8_alike_24 rfl (lv_at hl 0 rfl) ?_
        refine lv_iload_n hx hb dX8_alike_25 rfl (lv_at hl 1 rfl) ?_
        refine lv_iload_n hx hb dX8_alike_26 rfl (lv_at hl 2 rfl) ?_
        refine lv_iload_n hx hb dX8_alike_27 rfl (lv_at hl 3 rfl) ?_
        obtain ⟨u8, eu8, h⟩ := zb_some h
        obtain ⟨S9, eS9, h⟩ := zb_some h
        refine z_cV (As := [.int x1, .int x2, .int x3]) X hl hH hS mlX8_189 eu8 (kX8_both eS9) rfl rfl (Nat.le_of_ble_eq_true rfl) ⟨rfl, rfl, Nat.le_of_ble_eq_true rfl, Nat.le_of_ble_eq_true rfl⟩ ⟨Nat.le_refl _, Nat.le_refl _⟩ dX8_alike_28 (fun H locs hH hS => ?_)
        refine lv_aload_n hx hb dX8_alike_31 rfl (lv_at hl 0 rfl) ?_
        refine lv_iload_n hx hb dX8_alike_32 rfl (lv_at hl 3 rfl) ?_
        obtain ⟨u10, eu10, h⟩ := zb_some h
        obtain ⟨v12, S11, eS11, h⟩ := zb2_some h
        refine z_cV (As := [.int x3]) X hl hH hS mlX8_193 eu10 (kX8_areAlike eS11) rfl rfl (Nat.le_of_ble_eq_true rfl) ⟨rfl, rfl, Nat.le_of_ble_eq_true rfl, Nat.le_of_ble_eq_true rfl⟩ ⟨Nat.le_refl _, Nat.le_refl _⟩ dX8_alike_33 (fun H locs hH hS => ?_)
        refine lv_if_eq (tgt := 43) hx hb dX8_alike_36 (by decide) (fun c => ?_) (fun c => ?_)
        · have h := (if_pos c).symm.trans h
          refine lv_iconst (v := (0 : Int32)) hx hb dX8_alike_43 (by decide) ?_
          exact wX8_alike_44 X h _ _ _ hH hS (lv_sub hl [] rfl)
        · have h := (if_neg c).symm.trans h
          refine lv_iconst (v := (1 : Int32)) hx hb dX8_alike_39 (by decide) ?_
          refine lv_goto (tgt := 44) hx hb dX8_alike_40 (by decide) ?_
          exact wX8_alike_44 X h _ _ _ hH hS (lv_sub hl [] rfl)
      · have h := (if_pos c).symm.trans h
        exact wX8_alike_22 X h _ _ _ hH hS (lv_sub hl [] rfl)
set_option maxRecDepth 100000 in
theorem kX8_alike {N : Nat} {r : Int32} {T : zS} {S : zS} {z : Nat} {x0 : Nat} {x1 : Int32} {x2 : Int32} {x3 : Int32} (h : fX8_alike N S x0 x1 x2 x3 = some (r, T)) : Met l yX8_alike [.code yX8_alike cX8_alike 4 (some .int)] { frames := 6, cells := 0, slots := 0, locals := 142 } (zP D cy A S z [.ref x0, .int x1, .int x2, .int x3]) (zQ D cy A T z (some (.int r))) 0 0 A := by
  refine z_met (lv := [(0, .ref x0), (1, .int x1), (2, .int x2), (3, .int x3)]) (by decide) (Nat.le_of_ble_eq_true rfl) rfl ?_
  intro p e s m below meth c X H locs ls hH hS hl
  exact wX8_alike_0 X h _ _ _ hH hS (lv_sub hl [0, 1, 2, 3] rfl)
set_option maxRecDepth 100000 in
set_option maxHeartbeats 4000000 in
theorem wX8_first_0 {z : Nat} {N : Nat} {r : Int32} {T : zS} (X : zX D cy p s m meth c cX8_first 3 RX8 (some .int))  {S : zS} {x0 : Nat} {x1 : Int32} {x2 : Int32} (h : fX8_first_0 N S x0 x1 x2 = some (r, T)) : zWt D cy A p l e { frames := 0, cells := 0, slots := 0, locals := 0 } s m args below meth c z 0 0 0 0 (zQ D cy A T z (some (.int r))) S 3 0 [(0, .ref x0), (1, .int x1), (2, .int x2)] [] := by
  obtain ⟨hx, hb, hml, hown, hr, hlocks, hT⟩ := id X
  intro H locs ls hH hS hl
  unfold fX8_first_0 at h
  refine lv_aload_n hx hb dX8_first_0 rfl (lv_at hl 0 rfl) ?_
  obtain ⟨v1, ev1, h⟩ := zb_some h
  refine z_getr X flX8_47 hH ev1 dX8_first_1 ?_
  refine lv_sipush (v := (200 : Int32)) hx hb dX8_first_4 (by decide) ?_
  refine lv_iload_n hx hb dX8_first_7 rfl (lv_at hl 1 rfl) ?_
  refine lv_imul hx hb dX8_first_8 ?_
  refine lv_iload_n hx hb dX8_first_9 rfl (lv_at hl 2 rfl) ?_
  refine lv_iadd hx hb dX8_first_10 ?_
  obtain ⟨v2, ev2, h⟩ := zb_some h
  refine z_iald X hH ev2 dX8_first_11 ?_
  exact z_iret X hH hS h dX8_first_12
set_option maxRecDepth 100000 in
theorem kX8_first {N : Nat} {r : Int32} {T : zS} {S : zS} {z : Nat} {x0 : Nat} {x1 : Int32} {x2 : Int32} (h : fX8_first N S x0 x1 x2 = some (r, T)) : Met l yX8_first [.code yX8_first cX8_first 3 (some .int)] { frames := 0, cells := 0, slots := 0, locals := 0 } (zP D cy A S z [.ref x0, .int x1, .int x2]) (zQ D cy A T z (some (.int r))) 0 0 A := by
  refine z_met (lv := [(0, .ref x0), (1, .int x1), (2, .int x2)]) (by decide) (Nat.le_of_ble_eq_true rfl) rfl ?_
  intro p e s m below meth c X H locs ls hH hS hl
  exact wX8_first_0 X h _ _ _ hH hS (lv_sub hl [0, 1, 2] rfl)
set_option maxRecDepth 100000 in
set_option maxHeartbeats 4000000 in
theorem wX8_second_0 {z : Nat} {N : Nat} {r : Int32} {T : zS} (X : zX D cy p s m meth c cX8_second 3 RX8 (some .int))  {S : zS} {x0 : Nat} {x1 : Int32} {x2 : Int32} (h : fX8_second_0 N S x0 x1 x2 = some (r, T)) : zWt D cy A p l e { frames := 0, cells := 0, slots := 0, locals := 0 } s m args below meth c z 0 0 0 0 (zQ D cy A T z (some (.int r))) S 3 0 [(0, .ref x0), (1, .int x1), (2, .int x2)] [] := by
  obtain ⟨hx, hb, hml, hown, hr, hlocks, hT⟩ := id X
  intro H locs ls hH hS hl
  unfold fX8_second_0 at h
  refine lv_aload_n hx hb dX8_second_0 rfl (lv_at hl 0 rfl) ?_
  obtain ⟨v1, ev1, h⟩ := zb_some h
  refine z_getr X flX8_47 hH ev1 dX8_second_1 ?_
  refine lv_sipush (v := (200 : Int32)) hx hb dX8_second_4 (by decide) ?_
  refine lv_bipush (v := (24 : Int32)) hx hb dX8_second_7 (by decide) ?_
  refine lv_iload_n hx hb dX8_second_9 rfl (lv_at hl 1 rfl) ?_
  refine lv_iadd hx hb dX8_second_10 ?_
  refine lv_imul hx hb dX8_second_11 ?_
  refine lv_iload_n hx hb dX8_second_12 rfl (lv_at hl 2 rfl) ?_
  refine lv_iadd hx hb dX8_second_13 ?_
  obtain ⟨v2, ev2, h⟩ := zb_some h
  refine z_iald X hH ev2 dX8_second_14 ?_
  exact z_iret X hH hS h dX8_second_15
set_option maxRecDepth 100000 in
theorem kX8_second {N : Nat} {r : Int32} {T : zS} {S : zS} {z : Nat} {x0 : Nat} {x1 : Int32} {x2 : Int32} (h : fX8_second N S x0 x1 x2 = some (r, T)) : Met l yX8_second [.code yX8_second cX8_second 3 (some .int)] { frames := 0, cells := 0, slots := 0, locals := 0 } (zP D cy A S z [.ref x0, .int x1, .int x2]) (zQ D cy A T z (some (.int r))) 0 0 A := by
  refine z_met (lv := [(0, .ref x0), (1, .int x1), (2, .int x2)]) (by decide) (Nat.le_of_ble_eq_true rfl) rfl ?_
  intro p e s m below meth c X H locs ls hH hS hl
  exact wX8_second_0 X h _ _ _ hH hS (lv_sub hl [0, 1, 2] rfl)
end
