section
variable {D : va_G} {cy : Nat → ClassId} {A : Nat → Prop} {p : Program} {l : Launch} {e : Env} {s : State} {m : MethodId} {args : Array Value} {below : List Frame} {meth : Method} {c : Code}
set_option maxRecDepth 100000 in
set_option maxHeartbeats 4000000 in
theorem wX7_feed_37 {N : Nat} {MC MS zT : Nat} {r : Int32} {T : zS} (X : zX D cy p s m meth c cX7_feed 5 RX7 (some .int)) (hA : ∀ q : Nat, s.heap.size ≤ q → A q) {K37 : zS × Nat × Int32 × Int32 × Nat × Int32 → Option (Int32 × zS × Nat)} (hK37 : ∀ (S : zS) (z : Nat) (x1 : Int32) (x2 : Int32) (x3 : Nat) (x4 : Int32) (q : Nat) (w : Nat), q + zT ≤ MC + z → w + 200 * zT ≤ MS + 200 * z → K37 (S, z, x1, x2, x3, x4) = some (r, T, zT) → zWt D cy A p l e ({ frames := 2, cells := MC, slots := MS, locals := 42 } : Room) s m args below meth c z q w MC MS (zQ D cy A T zT (some (.int r))) S 5 37 [(1, .int x1), (2, .int x2), (3, .ref x3), (4, .int x4)] []) {S : zS} {z : Nat} {x1 : Int32} {x2 : Int32} {x3 : Nat} {x4 : Int32} {q w : Nat} (hq : q + zT ≤ MC + z) (hw : w + 200 * zT ≤ MS + 200 * z) (h : rX7_feed_37 N K37 S z x1 x2 x3 x4 = some (r, T, zT)) : zWt D cy A p l e ({ frames := 2, cells := MC, slots := MS, locals := 42 } : Room) s m args below meth c z q w MC MS (zQ D cy A T zT (some (.int r))) S 5 37 [(1, .int x1), (2, .int x2), (3, .ref x3), (4, .int x4)] [] := by
  obtain ⟨hx, hb, hml, hown, hr, hlocks, hT⟩ := id X
  intro H locs ls hH hS hl
  unfold rX7_feed_37 at h
  obtain ⟨h, hz⟩ := zgeI_some h
  refine lv_iload hx hb dX7_feed_37 (lv_at hl 3 rfl) ?_
  refine lv_iload_n hx hb dX7_feed_39 rfl (lv_at hl 0 rfl) ?_
  refine lv_icmp_ge (tgt := 65) hx hb dX7_feed_40 (by decide) (fun c => ?_) (fun c => ?_)
  · have h := (if_pos c).symm.trans h
    refine lv_aload_n hx hb dX7_feed_65 rfl (lv_at hl 2 rfl) ?_
    obtain ⟨v1, ev1, h⟩ := zb_some h
    refine z_geti X flX7_65 hH ev1 dX7_feed_66 ?_
    exact z_iretZ X hH hS h hq hw dX7_feed_69
  · have h := (if_neg c).symm.trans h
    refine lv_aload_n hx hb dX7_feed_43 rfl (lv_at hl 2 rfl) ?_
    refine lv_iload_n hx hb dX7_feed_44 rfl (lv_at hl 1 rfl) ?_
    refine lv_bipush (v := (8 : Int32)) hx hb dX7_feed_45 (by decide) ?_
    refine lv_iload hx hb dX7_feed_47 (lv_at hl 3 rfl) ?_
    refine lv_imul hx hb dX7_feed_49 ?_
    refine lv_iushr hx hb dX7_feed_50 (zush_eq _ _) ?_
    refine lv_sipush (v := (255 : Int32)) hx hb dX7_feed_51 (by decide) ?_
    refine lv_iand hx hb dX7_feed_54 ?_
    obtain ⟨u2, eu2, h⟩ := zb_some h
    obtain ⟨v5, S3, z4, eS3, h⟩ := zb3_some h
    obtain ⟨h, hzz4⟩ := zgeI_some h
    have hmz4 := mX5_put eS3
    refine z_cV (As := [.int ((zush x2 ((8 : Int32) * x4)) &&& (255 : Int32))]) X hl hH hS mlX7_71 eu2 (kX5_put (fun q h => hA q (Nat.le_trans (Nat.le_trans hS.1.1 (Nat.le_of_eq hS.2)) h)) eS3) rfl rfl (Nat.le_of_ble_eq_true rfl) ⟨rfl, rfl, Nat.le_of_ble_eq_true rfl, Nat.le_of_ble_eq_true rfl⟩ (zz_f hq hw hmz4 hzz4) dX7_feed_55 (fun H locs hH hS => ?_)
    obtain ⟨hq, hw⟩ := zz_q hq hw hmz4
    have hz := hzz4
    refine lv_pop hx hb dX7_feed_58 rfl ?_
    refine lv_iinc (v := (x4 + (1 : Int32))) (lv' := [(4, .int (x4 + (1 : Int32))), (1, .int x1), (2, .int x2), (3, .ref x3)]) hx hb dX7_feed_59 hl (k := 3) rfl (z_ii (by decide) _) (by decide) rfl (fun ls hl => ?_)
    refine lv_goto (tgt := 37) hx hb dX7_feed_62 (by decide) ?_
    exact hK37 _ _ _ _ _ _ _ _ hq hw h _ _ _ hH hS (lv_sub hl [1, 2, 3, 0] rfl)
set_option maxRecDepth 100000 in
set_option maxHeartbeats 4000000 in
theorem uX7_feed_37 {N : Nat} {MC MS zT : Nat} {r : Int32} {T : zS} (X : zX D cy p s m meth c cX7_feed 5 RX7 (some .int)) (hA : ∀ q : Nat, s.heap.size ≤ q → A q)  {S : zS} {z : Nat} {x1 : Int32} {x2 : Int32} {x3 : Nat} {x4 : Int32} {q w : Nat} (hq : q + zT ≤ MC + z) (hw : w + 200 * zT ≤ MS + 200 * z) (h : rlX7_feed_37 N S z x1 x2 x3 x4 = some (r, T, zT)) : zWt D cy A p l e ({ frames := 2, cells := MC, slots := MS, locals := 42 } : Room) s m args below meth c z q w MC MS (zQ D cy A T zT (some (.int r))) S 5 37 [(1, .int x1), (2, .int x2), (3, .ref x3), (4, .int x4)] [] := by
  unfold rlX7_feed_37 at h
  refine zloop_ind (P := fun y => ∀ (q : Nat) (w : Nat), q + zT ≤ MC + y.2.1 → w + 200 * zT ≤ MS + 200 * y.2.1 → zWt D cy A p l e ({ frames := 2, cells := MC, slots := MS, locals := 42 } : Room) s m args below meth c y.2.1 q w MC MS (zQ D cy A T zT (some (.int r))) y.1 5 37 [(1, .int y.2.2.1), (2, .int y.2.2.2.1), (3, .ref y.2.2.2.2.1), (4, .int y.2.2.2.2.2)] []) ?_ N (S, z, x1, x2, x3, x4) h _ _ hq hw
  intro K hK y hy q w hq hw
  obtain ⟨S, z, x1, x2, x3, x4⟩ := y
  exact wX7_feed_37 X hA (fun S z x1 x2 x3 x4 q w hq hw h => hK (S, z, x1, x2, x3, x4) h q w hq hw) hq hw hy
set_option maxRecDepth 100000 in
set_option maxHeartbeats 4000000 in
theorem wX7_feed_10 {N : Nat} {MC MS zT : Nat} {r : Int32} {T : zS} (X : zX D cy p s m meth c cX7_feed 5 RX7 (some .int)) (hA : ∀ q : Nat, s.heap.size ≤ q → A q)  {S : zS} {z : Nat} {q w : Nat} (hq : q + zT ≤ MC + z) (hw : w + 200 * zT ≤ MS + 200 * z) (h : rX7_feed_10 N S z = some (r, T, zT)) : zWt D cy A p l e ({ frames := 2, cells := MC, slots := MS, locals := 42 } : Room) s m args below meth c z q w MC MS (zQ D cy A T zT (some (.int r))) S 5 10 [] [] := by
  obtain ⟨hx, hb, hml, hown, hr, hlocks, hT⟩ := id X
  intro H locs ls hH hS hl
  unfold rX7_feed_10 at h
  obtain ⟨h, hz⟩ := zgeI_some h
  refine lv_iconst (v := (-1 : Int32)) hx hb dX7_feed_10 (by decide) ?_
  exact z_iretZ X hH hS h hq hw dX7_feed_11
set_option maxRecDepth 100000 in
set_option maxHeartbeats 4000000 in
theorem wX7_feed_0 {N : Nat} {MC MS zT : Nat} {r : Int32} {T : zS} (X : zX D cy p s m meth c cX7_feed 5 RX7 (some .int)) (hA : ∀ q : Nat, s.heap.size ≤ q → A q)  {S : zS} {z : Nat} {x0 : Nat} {x1 : Int32} {x2 : Int32} {q w : Nat} (hq : q + zT ≤ MC + z) (hw : w + 200 * zT ≤ MS + 200 * z) (h : rX7_feed_0 N S z x0 x1 x2 = some (r, T, zT)) : zWt D cy A p l e ({ frames := 2, cells := MC, slots := MS, locals := 42 } : Room) s m args below meth c z q w MC MS (zQ D cy A T zT (some (.int r))) S 5 0 [(0, .ref x0), (1, .int x1), (2, .int x2)] [] := by
  obtain ⟨hx, hb, hml, hown, hr, hlocks, hT⟩ := id X
  intro H locs ls hH hS hl
  unfold rX7_feed_0 at h
  obtain ⟨h, hz⟩ := zgeI_some h
  refine lv_iload_n hx hb dX7_feed_0 rfl (lv_at hl 1 rfl) ?_
  refine lv_iconst (v := (1 : Int32)) hx hb dX7_feed_1 (by decide) ?_
  refine lv_icmp_lt (tgt := 10) hx hb dX7_feed_2 (by decide) (fun c => ?_) (fun c => ?_)
  · have h := (if_pos c).symm.trans h
    exact wX7_feed_10 X hA hq hw h _ _ _ hH hS (lv_sub hl [] rfl)
  · have h := (if_neg c).symm.trans h
    refine lv_iload_n hx hb dX7_feed_5 rfl (lv_at hl 1 rfl) ?_
    refine lv_iconst (v := (4 : Int32)) hx hb dX7_feed_6 (by decide) ?_
    refine lv_icmp_le (tgt := 12) hx hb dX7_feed_7 (by decide) (fun c => ?_) (fun c => ?_)
    · have h := (if_pos c).symm.trans h
      refine lv_aload_n hx hb dX7_feed_12 rfl (lv_at hl 0 rfl) ?_
      obtain ⟨v6, ev6, h⟩ := zb_some h
      refine z_getr X flX7_10 hH ev6 dX7_feed_13 ?_
      obtain ⟨v7, ev7, h⟩ := zb_some h
      refine z_getr X flX7_61 hH ev7 dX7_feed_16 ?_
      refine lv_astore_n (lv' := [(3, .ref v7), (0, .ref x0), (1, .int x1), (2, .int x2)]) hx hb dX7_feed_19 rfl hl (by decide) rfl (fun ls hl => ?_)
      refine lv_aload_n hx hb dX7_feed_20 rfl (lv_at hl 0 rfl) ?_
      obtain ⟨v8, ev8, h⟩ := zb_some h
      refine z_geti X flX7_65 hH ev8 dX7_feed_21 ?_
      refine lv_iload_n hx hb dX7_feed_24 rfl (lv_at hl 2 rfl) ?_
      refine lv_iadd hx hb dX7_feed_25 ?_
      refine lv_bipush (v := (60 : Int32)) hx hb dX7_feed_26 (by decide) ?_
      refine lv_icmp_le (tgt := 34) hx hb dX7_feed_28 (by decide) (fun c => ?_) (fun c => ?_)
      · have h := (if_pos c).symm.trans h
        refine lv_iconst (v := (0 : Int32)) hx hb dX7_feed_34 (by decide) ?_
        refine lv_istore (lv' := [(4, .int (0 : Int32)), (3, .ref v7), (0, .ref x0), (1, .int x1), (2, .int x2)]) hx hb dX7_feed_35 hl (by decide) rfl (fun ls hl => ?_)
        exact uX7_feed_37 X hA hq hw h _ _ _ hH hS (lv_sub hl [3, 4, 1, 0] rfl)
      · have h := (if_neg c).symm.trans h
        refine lv_bipush (v := (-3 : Int32)) hx hb dX7_feed_31 (by decide) ?_
        exact z_iretZ X hH hS h hq hw dX7_feed_33
    · have h := (if_neg c).symm.trans h
      exact wX7_feed_10 X hA hq hw h _ _ _ hH hS (lv_sub hl [] rfl)
theorem mX7_feed {N : Nat} {zT : Nat} {r : Int32} {T : zS} {S : zS} {z : Nat} {x0 : Nat} {x1 : Int32} {x2 : Int32} (h : rX7_feed N S z x0 x1 x2 = some (r, T, zT)) : z ≤ zT := by
  unfold rX7_feed rX7_feed_0 at h
  exact (zgeI_some h).2
set_option maxRecDepth 100000 in
theorem kX7_feed {N : Nat} {zT : Nat} {r : Int32} {T : zS} {S : zS} {z : Nat} {x0 : Nat} {x1 : Int32} {x2 : Int32} (hA0 : ∀ q : Nat, z ≤ q → A q) (h : rX7_feed N S z x0 x1 x2 = some (r, T, zT)) : Met l yX7_feed [.code yX7_feed cX7_feed 5 (some .int)] ({ frames := 2, cells := zT - z, slots := 200 * (zT - z), locals := 42 } : Room) (zP D cy A S z [.ref x0, .int x1, .int x2]) (zQ D cy A T zT (some (.int r))) (zT - z) (200 * (zT - z)) A := by
  have hm := mX7_feed h
  refine z_metA (lv := [(0, .ref x0), (1, .int x1), (2, .int x2)]) (by decide) (Nat.le_of_ble_eq_true rfl) rfl ?_
  intro p e s m below meth c X hz H locs ls hH hS hl
  exact wX7_feed_0 X (fun q hq => hA0 q (by rw [← hz]; exact hq)) (zz_s hm).1 (zz_s hm).2 h _ _ _ hH hS (lv_sub hl [0, 1, 2] rfl)
set_option maxRecDepth 100000 in
set_option maxHeartbeats 4000000 in
theorem wX7_text_0 {N : Nat} {MC MS zT : Nat} {r : Int32} {T : zS} (X : zX D cy p s m meth c cX7_text 1 RX7 (some .int)) (hA : ∀ q : Nat, s.heap.size ≤ q → A q)  {S : zS} {z : Nat} {x0 : Nat} {q w : Nat} (hq : q + zT ≤ MC + z) (hw : w + 200 * zT ≤ MS + 200 * z) (h : rX7_text_0 N S z x0 = some (r, T, zT)) : zWt D cy A p l e ({ frames := 3, cells := MC, slots := MS, locals := 66 } : Room) s m args below meth c z q w MC MS (zQ D cy A T zT (some (.int r))) S 1 0 [(0, .ref x0)] [] := by
  obtain ⟨hx, hb, hml, hown, hr, hlocks, hT⟩ := id X
  intro H locs ls hH hS hl
  unfold rX7_text_0 at h
  obtain ⟨h, hz⟩ := zgeI_some h
  refine lv_aload_n hx hb dX7_text_0 rfl (lv_at hl 0 rfl) ?_
  obtain ⟨v1, ev1, h⟩ := zb_some h
  refine z_getr X flX7_10 hH ev1 dX7_text_1 ?_
  obtain ⟨v2, ev2, h⟩ := zb_some h
  refine z_geti X flX7_75 hH ev2 dX7_text_4 ?_
  refine lv_bipush (v := (20 : Int32)) hx hb dX7_text_7 (by decide) ?_
  refine lv_icmp_lt (tgt := 15) hx hb dX7_text_9 (by decide) (fun c => ?_) (fun c => ?_)
  · have h := (if_pos c).symm.trans h
    refine lv_aload_n hx hb dX7_text_15 rfl (lv_at hl 0 rfl) ?_
    obtain ⟨v3, ev3, h⟩ := zb_some h
    refine z_getr X flX7_10 hH ev3 dX7_text_16 ?_
    refine lv_aload_n hx hb dX7_text_19 rfl (lv_at hl 0 rfl) ?_
    obtain ⟨v4, ev4, h⟩ := zb_some h
    refine z_getr X flX7_10 hH ev4 dX7_text_20 ?_
    obtain ⟨v5, ev5, h⟩ := zb_some h
    refine z_geti X flX7_75 hH ev5 dX7_text_23 ?_
    obtain ⟨u6, eu6, h⟩ := zb_some h
    obtain ⟨v9, S7, z8, eS7, h⟩ := zb3_some h
    obtain ⟨h, hzz8⟩ := zgeI_some h
    have hmz8 := mX6_tapeTo eS7
    refine z_cV (As := [.int v5]) X hl hH hS mlX7_76 eu6 (kX6_tapeTo (fun q h => hA q (Nat.le_trans (Nat.le_trans hS.1.1 (Nat.le_of_eq hS.2)) h)) eS7) rfl rfl (Nat.le_of_ble_eq_true rfl) ⟨rfl, rfl, Nat.le_of_ble_eq_true rfl, Nat.le_of_ble_eq_true rfl⟩ (zz_f hq hw hmz8 hzz8) dX7_text_26 (fun H locs hH hS => ?_)
    obtain ⟨hq, hw⟩ := zz_q hq hw hmz8
    have hz := hzz8
    refine lv_pop hx hb dX7_text_29 rfl ?_
    refine lv_aload_n hx hb dX7_text_30 rfl (lv_at hl 0 rfl) ?_
    obtain ⟨v10, ev10, h⟩ := zb_some h
    refine z_getr X flX7_10 hH ev10 dX7_text_31 ?_
    refine lv_dup hx hb dX7_text_34 rfl ?_
    obtain ⟨v11, ev11, h⟩ := zb_some h
    refine z_geti X flX7_75 hH ev11 dX7_text_35 ?_
    refine lv_iconst (v := (1 : Int32)) hx hb dX7_text_38 (by decide) ?_
    refine lv_iadd hx hb dX7_text_39 ?_
    obtain ⟨S12, eS12, h⟩ := zb_some h
    refine z_puti X flX7_75 fpX6_2 hH hS eS12 dX7_text_40 (fun H locs hH hS => ?_)
    refine lv_aload_n hx hb dX7_text_43 rfl (lv_at hl 0 rfl) ?_
    obtain ⟨v13, ev13, h⟩ := zb_some h
    refine z_getr X flX7_10 hH ev13 dX7_text_44 ?_
    obtain ⟨v14, ev14, h⟩ := zb_some h
    refine z_geti X flX7_75 hH ev14 dX7_text_47 ?_
    refine lv_iconst (v := (1 : Int32)) hx hb dX7_text_50 (by decide) ?_
    refine lv_isub hx hb dX7_text_51 ?_
    exact z_iretZ X hH hS h hq hw dX7_text_52
  · have h := (if_neg c).symm.trans h
    refine lv_bipush (v := (-3 : Int32)) hx hb dX7_text_12 (by decide) ?_
    exact z_iretZ X hH hS h hq hw dX7_text_14
theorem mX7_text {N : Nat} {zT : Nat} {r : Int32} {T : zS} {S : zS} {z : Nat} {x0 : Nat} (h : rX7_text N S z x0 = some (r, T, zT)) : z ≤ zT := by
  unfold rX7_text rX7_text_0 at h
  exact (zgeI_some h).2
set_option maxRecDepth 100000 in
theorem kX7_text {N : Nat} {zT : Nat} {r : Int32} {T : zS} {S : zS} {z : Nat} {x0 : Nat} (hA0 : ∀ q : Nat, z ≤ q → A q) (h : rX7_text N S z x0 = some (r, T, zT)) : Met l yX7_text [.code yX7_text cX7_text 1 (some .int)] ({ frames := 3, cells := zT - z, slots := 200 * (zT - z), locals := 66 } : Room) (zP D cy A S z [.ref x0]) (zQ D cy A T zT (some (.int r))) (zT - z) (200 * (zT - z)) A := by
  have hm := mX7_text h
  refine z_metA (lv := [(0, .ref x0)]) (by decide) (Nat.le_of_ble_eq_true rfl) rfl ?_
  intro p e s m below meth c X hz H locs ls hH hS hl
  exact wX7_text_0 X (fun q hq => hA0 q (by rw [← hz]; exact hq)) (zz_s hm).1 (zz_s hm).2 h _ _ _ hH hS (lv_sub hl [0] rfl)
set_option maxRecDepth 100000 in
set_option maxHeartbeats 4000000 in
theorem wX7_isText_20 {z : Nat} {N : Nat} {r : Int32} {T : zS} (X : zX D cy p s m meth c cX7_isText 2 RX7 (some .boolean))  {S : zS} {y0 : Int32} (h : rX7_isText_20 N S y0 = some (r, T)) : zWt D cy A p l e { frames := 0, cells := 0, slots := 0, locals := 0 } s m args below meth c z 0 0 0 0 (zQ D cy A T z (some (.int r))) S 2 20 [] [.int y0] := by
  obtain ⟨hx, hb, hml, hown, hr, hlocks, hT⟩ := id X
  intro H locs ls hH hS hl
  unfold rX7_isText_20 at h
  exact z_zret X hH hS h dX7_isText_20
set_option maxRecDepth 100000 in
set_option maxHeartbeats 4000000 in
theorem wX7_isText_19 {z : Nat} {N : Nat} {r : Int32} {T : zS} (X : zX D cy p s m meth c cX7_isText 2 RX7 (some .boolean))  {S : zS} (h : rX7_isText_19 N S = some (r, T)) : zWt D cy A p l e { frames := 0, cells := 0, slots := 0, locals := 0 } s m args below meth c z 0 0 0 0 (zQ D cy A T z (some (.int r))) S 2 19 [] [] := by
  obtain ⟨hx, hb, hml, hown, hr, hlocks, hT⟩ := id X
  intro H locs ls hH hS hl
  unfold rX7_isText_19 at h
  refine lv_iconst (v := (0 : Int32)) hx hb dX7_isText_19 (by decide) ?_
  exact wX7_isText_20 X h _ _ _ hH hS (lv_sub hl [] rfl)
set_option maxRecDepth 100000 in
set_option maxHeartbeats 4000000 in
theorem wX7_isText_0 {z : Nat} {N : Nat} {r : Int32} {T : zS} (X : zX D cy p s m meth c cX7_isText 2 RX7 (some .boolean))  {S : zS} {x0 : Nat} {x1 : Int32} (h : rX7_isText_0 N S x0 x1 = some (r, T)) : zWt D cy A p l e { frames := 0, cells := 0, slots := 0, locals := 0 } s m args below meth c z 0 0 0 0 (zQ D cy A T z (some (.int r))) S 2 0 [(0, .ref x0), (1, .int x1)] [] := by
  obtain ⟨hx, hb, hml, hown, hr, hlocks, hT⟩ := id X
  intro H locs ls hH hS hl
  unfold rX7_isText_0 at h
  refine lv_iload_n hx hb dX7_isText_0 rfl (lv_at hl 1 rfl) ?_
  refine lv_if_lt (tgt := 19) hx hb dX7_isText_1 (by decide) (fun c => ?_) (fun c => ?_)
  · have h := (if_pos c).symm.trans h
    exact wX7_isText_19 X h _ _ _ hH hS (lv_sub hl [] rfl)
  · have h := (if_neg c).symm.trans h
    refine lv_iload_n hx hb dX7_isText_4 rfl (lv_at hl 1 rfl) ?_
    refine lv_aload_n hx hb dX7_isText_5 rfl (lv_at hl 0 rfl) ?_
    obtain ⟨v1, ev1, h⟩ := zb_some h
    refine z_getr X flX7_10 hH ev1 dX7_isText_6 ?_
    obtain ⟨v2, ev2, h⟩ := zb_some h
    refine z_geti X flX7_75 hH ev2 dX7_isText_9 ?_
    refine lv_icmp_ge (tgt := 19) hx hb dX7_isText_12 (by decide) (fun c => ?_) (fun c => ?_)
    · have h := (if_pos c).symm.trans h
      exact wX7_isText_19 X h _ _ _ hH hS (lv_sub hl [] rfl)
    · have h := (if_neg c).symm.trans h
      refine lv_iconst (v := (1 : Int32)) hx hb dX7_isText_15 (by decide) ?_
      refine lv_goto (tgt := 20) hx hb dX7_isText_16 (by decide) ?_
      exact wX7_isText_20 X h _ _ _ hH hS (lv_sub hl [] rfl)
set_option maxRecDepth 100000 in
theorem kX7_isText {N : Nat} {r : Int32} {T : zS} {S : zS} {z : Nat} {x0 : Nat} {x1 : Int32} (h : rX7_isText N S x0 x1 = some (r, T)) : Met l yX7_isText [.code yX7_isText cX7_isText 2 (some .boolean)] { frames := 0, cells := 0, slots := 0, locals := 0 } (zP D cy A S z [.ref x0, .int x1]) (zQ D cy A T z (some (.int r))) 0 0 A := by
  refine z_met (lv := [(0, .ref x0), (1, .int x1)]) (by decide) (Nat.le_of_ble_eq_true rfl) rfl ?_
  intro p e s m below meth c X H locs ls hH hS hl
  exact wX7_isText_0 X h _ _ _ hH hS (lv_sub hl [0, 1] rfl)
set_option maxRecDepth 100000 in
set_option maxHeartbeats 4000000 in
theorem wX7_write_0 {N : Nat} {MC MS zT : Nat} {r : Int32} {T : zS} (X : zX D cy p s m meth c cX7_write 2 RX7 (some .int)) (hA : ∀ q : Nat, s.heap.size ≤ q → A q)  {S : zS} {z : Nat} {x0 : Nat} {x1 : Int32} {q w : Nat} (hq : q + zT ≤ MC + z) (hw : w + 200 * zT ≤ MS + 200 * z) (h : rX7_write_0 N S z x0 x1 = some (r, T, zT)) : zWt D cy A p l e ({ frames := 3, cells := MC, slots := MS, locals := 66 } : Room) s m args below meth c z q w MC MS (zQ D cy A T zT (some (.int r))) S 2 0 [(0, .ref x0), (1, .int x1)] [] := by
  obtain ⟨hx, hb, hml, hown, hr, hlocks, hT⟩ := id X
  intro H locs ls hH hS hl
  unfold rX7_write_0 at h
  obtain ⟨h, hz⟩ := zgeI_some h
  refine lv_aload_n hx hb dX7_write_0 rfl (lv_at hl 0 rfl) ?_
  refine lv_iload_n hx hb dX7_write_1 rfl (lv_at hl 1 rfl) ?_
  obtain ⟨u1, eu1, h⟩ := zb_some h
  obtain ⟨v3, S2, eS2, h⟩ := zb2_some h
  refine z_cV (As := [.int x1]) X hl hH hS mlX7_80 eu1 (kX7_isText eS2) rfl rfl (Nat.le_of_ble_eq_true rfl) ⟨rfl, rfl, Nat.le_of_ble_eq_true rfl, Nat.le_of_ble_eq_true rfl⟩ (zz_0 hq hw hz) dX7_write_2 (fun H locs hH hS => ?_)
  refine lv_if_ne (tgt := 10) hx hb dX7_write_5 (by decide) (fun c => ?_) (fun c => ?_)
  · have h := (if_neg c).symm.trans h
    refine lv_aload_n hx hb dX7_write_10 rfl (lv_at hl 0 rfl) ?_
    obtain ⟨v4, ev4, h⟩ := zb_some h
    refine z_getr X flX7_10 hH ev4 dX7_write_11 ?_
    refine lv_iload_n hx hb dX7_write_14 rfl (lv_at hl 1 rfl) ?_
    obtain ⟨u5, eu5, h⟩ := zb_some h
    obtain ⟨v8, S6, z7, eS6, h⟩ := zb3_some h
    obtain ⟨h, hzz7⟩ := zgeI_some h
    have hmz7 := mX6_tapeTo eS6
    refine z_cV (As := [.int x1]) X hl hH hS mlX7_76 eu5 (kX6_tapeTo (fun q h => hA q (Nat.le_trans (Nat.le_trans hS.1.1 (Nat.le_of_eq hS.2)) h)) eS6) rfl rfl (Nat.le_of_ble_eq_true rfl) ⟨rfl, rfl, Nat.le_of_ble_eq_true rfl, Nat.le_of_ble_eq_true rfl⟩ (zz_f hq hw hmz7 hzz7) dX7_write_15 (fun H locs hH hS => ?_)
    obtain ⟨hq, hw⟩ := zz_q hq hw hmz7
    have hz := hzz7
    exact z_iretZ X hH hS h hq hw dX7_write_18
  · have h := (if_pos c).symm.trans h
    refine lv_iconst (v := (-1 : Int32)) hx hb dX7_write_8 (by decide) ?_
    exact z_iretZ X hH hS h hq hw dX7_write_9
theorem mX7_write {N : Nat} {zT : Nat} {r : Int32} {T : zS} {S : zS} {z : Nat} {x0 : Nat} {x1 : Int32} (h : rX7_write N S z x0 x1 = some (r, T, zT)) : z ≤ zT := by
  unfold rX7_write rX7_write_0 at h
  exact (zgeI_some h).2
set_option maxRecDepth 100000 in
theorem kX7_write {N : Nat} {zT : Nat} {r : Int32} {T : zS} {S : zS} {z : Nat} {x0 : Nat} {x1 : Int32} (hA0 : ∀ q : Nat, z ≤ q → A q) (h : rX7_write N S z x0 x1 = some (r, T, zT)) : Met l yX7_write [.code yX7_write cX7_write 2 (some .int)] ({ frames := 3, cells := zT - z, slots := 200 * (zT - z), locals := 66 } : Room) (zP D cy A S z [.ref x0, .int x1]) (zQ D cy A T zT (some (.int r))) (zT - z) (200 * (zT - z)) A := by
  have hm := mX7_write h
  refine z_metA (lv := [(0, .ref x0), (1, .int x1)]) (by decide) (Nat.le_of_ble_eq_true rfl) rfl ?_
  intro p e s m below meth c X hz H locs ls hH hS hl
  exact wX7_write_0 X (fun q hq => hA0 q (by rw [← hz]; exact hq)) (zz_s hm).1 (zz_s hm).2 h _ _ _ hH hS (lv_sub hl [0, 1] rfl)
set_option maxRecDepth 100000 in
set_option maxHeartbeats 4000000 in
theorem wX7_isBit_14 {z : Nat} {N : Nat} {r : Int32} {T : zS} (X : zX D cy p s m meth c cX7_isBit 1 RX7 (some .boolean))  {S : zS} {y0 : Int32} (h : rX7_isBit_14 N S y0 = some (r, T)) : zWt D cy A p l e { frames := 0, cells := 0, slots := 0, locals := 0 } s m args below meth c z 0 0 0 0 (zQ D cy A T z (some (.int r))) S 1 14 [] [.int y0] := by
  obtain ⟨hx, hb, hml, hown, hr, hlocks, hT⟩ := id X
  intro H locs ls hH hS hl
  unfold rX7_isBit_14 at h
  exact z_zret X hH hS h dX7_isBit_14
set_option maxRecDepth 100000 in
set_option maxHeartbeats 4000000 in
theorem wX7_isBit_9 {z : Nat} {N : Nat} {r : Int32} {T : zS} (X : zX D cy p s m meth c cX7_isBit 1 RX7 (some .boolean))  {S : zS} (h : rX7_isBit_9 N S = some (r, T)) : zWt D cy A p l e { frames := 0, cells := 0, slots := 0, locals := 0 } s m args below meth c z 0 0 0 0 (zQ D cy A T z (some (.int r))) S 1 9 [] [] := by
  obtain ⟨hx, hb, hml, hown, hr, hlocks, hT⟩ := id X
  intro H locs ls hH hS hl
  unfold rX7_isBit_9 at h
  refine lv_iconst (v := (1 : Int32)) hx hb dX7_isBit_9 (by decide) ?_
  refine lv_goto (tgt := 14) hx hb dX7_isBit_10 (by decide) ?_
  exact wX7_isBit_14 X h _ _ _ hH hS (lv_sub hl [] rfl)
set_option maxRecDepth 100000 in
set_option maxHeartbeats 4000000 in
theorem wX7_isBit_0 {z : Nat} {N : Nat} {r : Int32} {T : zS} (X : zX D cy p s m meth c cX7_isBit 1 RX7 (some .boolean))  {S : zS} {x0 : Int32} (h : rX7_isBit_0 N S x0 = some (r, T)) : zWt D cy A p l e { frames := 0, cells := 0, slots := 0, locals := 0 } s m args below meth c z 0 0 0 0 (zQ D cy A T z (some (.int r))) S 1 0 [(0, .int x0)] [] := by
  obtain ⟨hx, hb, hml, hown, hr, hlocks, hT⟩ := id X
  intro H locs ls hH hS hl
  unfold rX7_isBit_0 at h
  refine lv_iload_n hx hb dX7_isBit_0 rfl (lv_at hl 0 rfl) ?_
  refine lv_if_eq (tgt := 9) hx hb dX7_isBit_1 (by decide) (fun c => ?_) (fun c => ?_)
  · have h := (if_pos c).symm.trans h
    exact wX7_isBit_9 X h _ _ _ hH hS (lv_sub hl [] rfl)
  · have h := (if_neg c).symm.trans h
    refine lv_iload_n hx hb dX7_isBit_4 rfl (lv_at hl 0 rfl) ?_
    refine lv_iconst (v := (1 : Int32)) hx hb dX7_isBit_5 (by decide) ?_
    refine lv_icmp_ne (tgt := 13) hx hb dX7_isBit_6 (by decide) (fun c => ?_) (fun c => ?_)
    · have h := (if_neg c).symm.trans h
      refine lv_iconst (v := (0 : Int32)) hx hb dX7_isBit_13 (by decide) ?_
      exact wX7_isBit_14 X h _ _ _ hH hS (lv_sub hl [] rfl)
    · have h := (if_pos c).symm.trans h
      exact wX7_isBit_9 X h _ _ _ hH hS (lv_sub hl [] rfl)
set_option maxRecDepth 100000 in
theorem kX7_isBit {N : Nat} {r : Int32} {T : zS} {S : zS} {z : Nat} {x0 : Int32} (h : rX7_isBit N S x0 = some (r, T)) : Met l yX7_isBit [.code yX7_isBit cX7_isBit 1 (some .boolean)] { frames := 0, cells := 0, slots := 0, locals := 0 } (zP D cy A S z [.int x0]) (zQ D cy A T z (some (.int r))) 0 0 A := by
  refine z_met (lv := [(0, .int x0)]) (by decide) (Nat.le_of_ble_eq_true rfl) rfl ?_
  intro p e s m below meth c X H locs ls hH hS hl
  exact wX7_isBit_0 X h _ _ _ hH hS (lv_sub hl [0] rfl)
set_option maxRecDepth 100000 in
set_option maxHeartbeats 4000000 in
theorem wX7_withBit_0 {z : Nat} {N : Nat} {r : Int32} {T : zS} (X : zX D cy p s m meth c cX7_withBit 3 RX7 (some .int))  {S : zS} {x0 : Int32} {x1 : Int32} {x2 : Int32} (h : rX7_withBit_0 N S x0 x1 x2 = some (r, T)) : zWt D cy A p l e { frames := 0, cells := 0, slots := 0, locals := 0 } s m args below meth c z 0 0 0 0 (zQ D cy A T z (some (.int r))) S 3 0 [(0, .int x0), (1, .int x1), (2, .int x2)] [] := by
  obtain ⟨hx, hb, hml, hown, hr, hlocks, hT⟩ := id X
  intro H locs ls hH hS hl
  unfold rX7_withBit_0 at h
  refine lv_iload_n hx hb dX7_withBit_0 rfl (lv_at hl 0 rfl) ?_
  refine lv_iconst (v := (1 : Int32)) hx hb dX7_withBit_1 (by decide) ?_
  refine lv_iload_n hx hb dX7_withBit_2 rfl (lv_at hl 1 rfl) ?_
  refine lv_ishl hx hb dX7_withBit_3 ?_
  refine lv_iconst (v := (-1 : Int32)) hx hb dX7_withBit_4 (by decide) ?_
  refine lv_ixor hx hb dX7_withBit_5 ?_
  refine lv_iand hx hb dX7_withBit_6 ?_
  refine lv_iload_n hx hb dX7_withBit_7 rfl (lv_at hl 2 rfl) ?_
  refine lv_iload_n hx hb dX7_withBit_8 rfl (lv_at hl 1 rfl) ?_
  refine lv_ishl hx hb dX7_withBit_9 ?_
  refine lv_ior hx hb dX7_withBit_10 ?_
  exact z_iret X hH hS h dX7_withBit_11
set_option maxRecDepth 100000 in
theorem kX7_withBit {N : Nat} {r : Int32} {T : zS} {S : zS} {z : Nat} {x0 : Int32} {x1 : Int32} {x2 : Int32} (h : rX7_withBit N S x0 x1 x2 = some (r, T)) : Met l yX7_withBit [.code yX7_withBit cX7_withBit 3 (some .int)] { frames := 0, cells := 0, slots := 0, locals := 0 } (zP D cy A S z [.int x0, .int x1, .int x2]) (zQ D cy A T z (some (.int r))) 0 0 A := by
  refine z_met (lv := [(0, .int x0), (1, .int x1), (2, .int x2)]) (by decide) (Nat.le_of_ble_eq_true rfl) rfl ?_
  intro p e s m below meth c X H locs ls hH hS hl
  exact wX7_withBit_0 X h _ _ _ hH hS (lv_sub hl [0, 1, 2] rfl)
set_option maxRecDepth 100000 in
set_option maxHeartbeats 4000000 in
theorem wX7_lack_15 {z : Nat} {N : Nat} {r : Int32} {T : zS} (X : zX D cy p s m meth c cX7_lack 4 RX7 (some .int))  {S : zS} (h : rX7_lack_15 N S = some (r, T)) : zWt D cy A p l e { frames := 1, cells := 0, slots := 0, locals := 22 } s m args below meth c z 0 0 0 0 (zQ D cy A T z (some (.int r))) S 4 15 [] [] := by
  obtain ⟨hx, hb, hml, hown, hr, hlocks, hT⟩ := id X
  intro H locs ls hH hS hl
  unfold rX7_lack_15 at h
  refine lv_iconst (v := (-1 : Int32)) hx hb dX7_lack_15 (by decide) ?_
  exact z_iret X hH hS h dX7_lack_16
set_option maxRecDepth 100000 in
set_option maxHeartbeats 4000000 in
theorem wX7_lack_0 {z : Nat} {N : Nat} {r : Int32} {T : zS} (X : zX D cy p s m meth c cX7_lack 4 RX7 (some .int))  {S : zS} {x0 : Nat} {x1 : Int32} {x2 : Int32} (h : rX7_lack_0 N S x0 x1 x2 = some (r, T)) : zWt D cy A p l e { frames := 1, cells := 0, slots := 0, locals := 22 } s m args below meth c z 0 0 0 0 (zQ D cy A T z (some (.int r))) S 4 0 [(0, .ref x0), (1, .int x1), (2, .int x2)] [] := by
  obtain ⟨hx, hb, hml, hown, hr, hlocks, hT⟩ := id X
  intro H locs ls hH hS hl
  unfold rX7_lack_0 at h
  refine lv_aload_n hx hb dX7_lack_0 rfl (lv_at hl 0 rfl) ?_
  refine lv_iload_n hx hb dX7_lack_1 rfl (lv_at hl 1 rfl) ?_
  obtain ⟨u1, eu1, h⟩ := zb_some h
  obtain ⟨v3, S2, eS2, h⟩ := zb2_some h
  refine z_cV (As := [.int x1]) X hl hH hS mlX7_80 eu1 (kX7_isText eS2) rfl rfl (Nat.le_of_ble_eq_true rfl) ⟨rfl, rfl, Nat.le_of_ble_eq_true rfl, Nat.le_of_ble_eq_true rfl⟩ ⟨Nat.le_refl _, Nat.le_refl _⟩ dX7_lack_2 (fun H locs hH hS => ?_)
  refine lv_if_eq (tgt := 15) hx hb dX7_lack_5 (by decide) (fun c => ?_) (fun c => ?_)
  · have h := (if_pos c).symm.trans h
    exact wX7_lack_15 X h _ _ _ hH hS (lv_sub hl [] rfl)
  · have h := (if_neg c).symm.trans h
    refine lv_iload_n hx hb dX7_lack_8 rfl (lv_at hl 2 rfl) ?_
    obtain ⟨v5, S4, eS4, h⟩ := zb2_some h
    refine z_cS (As := [.int x2]) X hl hH hS mlX7_83 (kX7_isBit eS4) rfl rfl (Nat.le_of_ble_eq_true rfl) ⟨rfl, rfl, Nat.le_of_ble_eq_true rfl, Nat.le_of_ble_eq_true rfl⟩ ⟨Nat.le_refl _, Nat.le_refl _⟩ dX7_lack_9 (fun H locs hH hS => ?_)
    refine lv_if_ne (tgt := 17) hx hb dX7_lack_12 (by decide) (fun c => ?_) (fun c => ?_)
    · have h := (if_neg c).symm.trans h
      refine lv_aload_n hx hb dX7_lack_17 rfl (lv_at hl 0 rfl) ?_
      obtain ⟨v6, ev6, h⟩ := zb_some h
      refine z_getr X flX7_10 hH ev6 dX7_lack_18 ?_
      obtain ⟨v7, ev7, h⟩ := zb_some h
      refine z_geti X flX7_86 hH ev7 dX7_lack_21 ?_
      refine lv_iload_n hx hb dX7_lack_24 rfl (lv_at hl 1 rfl) ?_
      refine lv_iushr hx hb dX7_lack_25 (zush_eq _ _) ?_
      refine lv_iconst (v := (1 : Int32)) hx hb dX7_lack_26 (by decide) ?_
      refine lv_iand hx hb dX7_lack_27 ?_
      refine lv_topi (fun v8 ev8 => ?_)
      have h := zlet_at ev8 h
      refine lv_istore_n (lv' := [(3, .int v8), (0, .ref x0), (1, .int x1), (2, .int x2)]) hx hb dX7_lack_28 rfl hl (by decide) rfl (fun ls hl => ?_)
      refine lv_aload_n hx hb dX7_lack_29 rfl (lv_at hl 1 rfl) ?_
      obtain ⟨v9, ev9, h⟩ := zb_some h
      refine z_getr X flX7_10 hH ev9 dX7_lack_30 ?_
      refine lv_aload_n hx hb dX7_lack_33 rfl (lv_at hl 1 rfl) ?_
      obtain ⟨v10, ev10, h⟩ := zb_some h
      refine z_getr X flX7_10 hH ev10 dX7_lack_34 ?_
      obtain ⟨v11, ev11, h⟩ := zb_some h
      refine z_geti X flX7_86 hH ev11 dX7_lack_37 ?_
      refine lv_iload_n hx hb dX7_lack_40 rfl (lv_at hl 2 rfl) ?_
      refine lv_iload_n hx hb dX7_lack_41 rfl (lv_at hl 3 rfl) ?_
      obtain ⟨v13, S12, eS12, h⟩ := zb2_some h
      refine z_cS (As := [.int v11, .int x1, .int x2]) X hl hH hS mlX7_89 (kX7_withBit eS12) rfl rfl (Nat.le_of_ble_eq_true rfl) ⟨rfl, rfl, Nat.le_of_ble_eq_true rfl, Nat.le_of_ble_eq_true rfl⟩ ⟨Nat.le_refl _, Nat.le_refl _⟩ dX7_lack_42 (fun H locs hH hS => ?_)
      obtain ⟨S14, eS14, h⟩ := zb_some h
      refine z_puti X flX7_86 fpX6_3 hH hS eS14 dX7_lack_45 (fun H locs hH hS => ?_)
      refine lv_iload_n hx hb dX7_lack_48 rfl (lv_at hl 0 rfl) ?_
      exact z_iret X hH hS h dX7_lack_49
    · have h := (if_pos c).symm.trans h
      exact wX7_lack_15 X h _ _ _ hH hS (lv_sub hl [] rfl)
set_option maxRecDepth 100000 in
theorem kX7_lack {N : Nat} {r : Int32} {T : zS} {S : zS} {z : Nat} {x0 : Nat} {x1 : Int32} {x2 : Int32} (h : rX7_lack N S x0 x1 x2 = some (r, T)) : Met l yX7_lack [.code yX7_lack cX7_lack 4 (some .int)] { frames := 1, cells := 0, slots := 0, locals := 22 } (zP D cy A S z [.ref x0, .int x1, .int x2]) (zQ D cy A T z (some (.int r))) 0 0 A := by
  refine z_met (lv := [(0, .ref x0), (1, .int x1), (2, .int x2)]) (by decide) (Nat.le_of_ble_eq_true rfl) rfl ?_
  intro p e s m below meth c X H locs ls hH hS hl
  exact wX7_lack_0 X h _ _ _ hH hS (lv_sub hl [0, 1, 2] rfl)
set_option maxRecDepth 100000 in
set_option maxHeartbeats 4000000 in
theorem wX7_isRoom_15 {z : Nat} {N : Nat} {r : Int32} {T : zS} (X : zX D cy p s m meth c cX7_isRoom 1 RX7 (some .boolean))  {S : zS} {y0 : Int32} (h : rX7_isRoom_15 N S y0 = some (r, T)) : zWt D cy A p l e { frames := 0, cells := 0, slots := 0, locals := 0 } s m args below meth c z 0 0 0 0 (zQ D cy A T z (some (.int r))) S 1 15 [] [.int y0] := by
  obtain ⟨hx, hb, hml, hown, hr, hlocks, hT⟩ := id X
  intro H locs ls hH hS hl
  unfold rX7_isRoom_15 at h
  exact z_zret X hH hS h dX7_isRoom_15
set_option maxRecDepth 100000 in
set_option maxHeartbeats 4000000 in
theorem wX7_isRoom_14 {z : Nat} {N : Nat} {r : Int32} {T : zS} (X : zX D cy p s m meth c cX7_isRoom 1 RX7 (some .boolean))  {S : zS} (h : rX7_isRoom_14 N S = some (r, T)) : zWt D cy A p l e { frames := 0, cells := 0, slots := 0, locals := 0 } s m args below meth c z 0 0 0 0 (zQ D cy A T z (some (.int r))) S 1 14 [] [] := by
  obtain ⟨hx, hb, hml, hown, hr, hlocks, hT⟩ := id X
  intro H locs ls hH hS hl
  unfold rX7_isRoom_14 at h
  refine lv_iconst (v := (0 : Int32)) hx hb dX7_isRoom_14 (by decide) ?_
  exact wX7_isRoom_15 X h _ _ _ hH hS (lv_sub hl [] rfl)
set_option maxRecDepth 100000 in
set_option maxHeartbeats 4000000 in
theorem wX7_isRoom_0 {z : Nat} {N : Nat} {r : Int32} {T : zS} (X : zX D cy p s m meth c cX7_isRoom 1 RX7 (some .boolean))  {S : zS} {x0 : Int32} (h : rX7_isRoom_0 N S x0 = some (r, T)) : zWt D cy A p l e { frames := 0, cells := 0, slots := 0, locals := 0 } s m args below meth c z 0 0 0 0 (zQ D cy A T z (some (.int r))) S 1 0 [(0, .int x0)] [] := by
  obtain ⟨hx, hb, hml, hown, hr, hlocks, hT⟩ := id X
  intro H locs ls hH hS hl
  unfold rX7_isRoom_0 at h
  refine lv_iload_n hx hb dX7_isRoom_0 rfl (lv_at hl 0 rfl) ?_
  refine lv_if_lt (tgt := 14) hx hb dX7_isRoom_1 (by decide) (fun c => ?_) (fun c => ?_)
  · have h := (if_pos c).symm.trans h
    exact wX7_isRoom_14 X h _ _ _ hH hS (lv_sub hl [] rfl)
  · have h := (if_neg c).symm.trans h
    refine lv_iload_n hx hb dX7_isRoom_4 rfl (lv_at hl 0 rfl) ?_
    refine lv_bipush (v := (8 : Int32)) hx hb dX7_isRoom_5 (by decide) ?_
    refine lv_icmp_ge (tgt := 14) hx hb dX7_isRoom_7 (by decide) (fun c => ?_) (fun c => ?_)
    · have h := (if_pos c).symm.trans h
      exact wX7_isRoom_14 X h _ _ _ hH hS (lv_sub hl [] rfl)
    · have h := (if_neg c).symm.trans h
      refine lv_iconst (v := (1 : Int32)) hx hb dX7_isRoom_10 (by decide) ?_
      refine lv_goto (tgt := 15) hx hb dX7_isRoom_11 (by decide) ?_
      exact wX7_isRoom_15 X h _ _ _ hH hS (lv_sub hl [] rfl)
set_option maxRecDepth 100000 in
theorem kX7_isRoom {N : Nat} {r : Int32} {T : zS} {S : zS} {z : Nat} {x0 : Int32} (h : rX7_isRoom N S x0 = some (r, T)) : Met l yX7_isRoom [.code yX7_isRoom cX7_isRoom 1 (some .boolean)] { frames := 0, cells := 0, slots := 0, locals := 0 } (zP D cy A S z [.int x0]) (zQ D cy A T z (some (.int r))) 0 0 A := by
  refine z_met (lv := [(0, .int x0)]) (by decide) (Nat.le_of_ble_eq_true rfl) rfl ?_
  intro p e s m below meth c X H locs ls hH hS hl
  exact wX7_isRoom_0 X h _ _ _ hH hS (lv_sub hl [0] rfl)
set_option maxRecDepth 100000 in
set_option maxHeartbeats 4000000 in
theorem wX7_isWord_15 {z : Nat} {N : Nat} {r : Int32} {T : zS} (X : zX D cy p s m meth c cX7_isWord 1 RX7 (some .boolean))  {S : zS} {y0 : Int32} (h : rX7_isWord_15 N S y0 = some (r, T)) : zWt D cy A p l e { frames := 0, cells := 0, slots := 0, locals := 0 } s m args below meth c z 0 0 0 0 (zQ D cy A T z (some (.int r))) S 1 15 [] [.int y0] := by
  obtain ⟨hx, hb, hml, hown, hr, hlocks, hT⟩ := id X
  intro H locs ls hH hS hl
  unfold rX7_isWord_15 at h
  exact z_zret X hH hS h dX7_isWord_15
set_option maxRecDepth 100000 in
set_option maxHeartbeats 4000000 in
theorem wX7_isWord_14 {z : Nat} {N : Nat} {r : Int32} {T : zS} (X : zX D cy p s m meth c cX7_isWord 1 RX7 (some .boolean))  {S : zS} (h : rX7_isWord_14 N S = some (r, T)) : zWt D cy A p l e { frames := 0, cells := 0, slots := 0, locals := 0 } s m args below meth c z 0 0 0 0 (zQ D cy A T z (some (.int r))) S 1 14 [] [] := by
  obtain ⟨hx, hb, hml, hown, hr, hlocks, hT⟩ := id X
  intro H locs ls hH hS hl
  unfold rX7_isWord_14 at h
  refine lv_iconst (v := (0 : Int32)) hx hb dX7_isWord_14 (by decide) ?_
  exact wX7_isWord_15 X h _ _ _ hH hS (lv_sub hl [] rfl)
set_option maxRecDepth 100000 in
set_option maxHeartbeats 4000000 in
theorem wX7_isWord_0 {z : Nat} {N : Nat} {r : Int32} {T : zS} (X : zX D cy p s m meth c cX7_isWord 1 RX7 (some .boolean))  {S : zS} {x0 : Int32} (h : rX7_isWord_0 N S x0 = some (r, T)) : zWt D cy A p l e { frames := 0, cells := 0, slots := 0, locals := 0 } s m args below meth c z 0 0 0 0 (zQ D cy A T z (some (.int r))) S 1 0 [(0, .int x0)] [] := by
  obtain ⟨hx, hb, hml, hown, hr, hlocks, hT⟩ := id X
  intro H locs ls hH hS hl
  unfold rX7_isWord_0 at h
  refine lv_iload_n hx hb dX7_isWord_0 rfl (lv_at hl 0 rfl) ?_
  refine lv_if_lt (tgt := 14) hx hb dX7_isWord_1 (by decide) (fun c => ?_) (fun c => ?_)
  · have h := (if_pos c).symm.trans h
    exact wX7_isWord_14 X h _ _ _ hH hS (lv_sub hl [] rfl)
  · have h := (if_neg c).symm.trans h
    refine lv_iload_n hx hb dX7_isWord_4 rfl (lv_at hl 0 rfl) ?_
    refine lv_bipush (v := (8 : Int32)) hx hb dX7_isWord_5 (by decide) ?_
    refine lv_icmp_ge (tgt := 14) hx hb dX7_isWord_7 (by decide) (fun c => ?_) (fun c => ?_)
    · have h := (if_pos c).symm.trans h
      exact wX7_isWord_14 X h _ _ _ hH hS (lv_sub hl [] rfl)
    · have h := (if_neg c).symm.trans h
      refine lv_iconst (v := (1 : Int32)) hx hb dX7_isWord_10 (by decide) ?_
      refine lv_goto (tgt := 15) hx hb dX7_isWord_11 (by decide) ?_
      exact wX7_isWord_15 X h _ _ _ hH hS (lv_sub hl [] rfl)
set_option maxRecDepth 100000 in
theorem kX7_isWord {N : Nat} {r : Int32} {T : zS} {S : zS} {z : Nat} {x0 : Int32} (h : rX7_isWord N S x0 = some (r, T)) : Met l yX7_isWord [.code yX7_isWord cX7_isWord 1 (some .boolean)] { frames := 0, cells := 0, slots := 0, locals := 0 } (zP D cy A S z [.int x0]) (zQ D cy A T z (some (.int r))) 0 0 A := by
  refine z_met (lv := [(0, .int x0)]) (by decide) (Nat.le_of_ble_eq_true rfl) rfl ?_
  intro p e s m below meth c X H locs ls hH hS hl
  exact wX7_isWord_0 X h _ _ _ hH hS (lv_sub hl [0] rfl)
set_option maxRecDepth 100000 in
set_option maxHeartbeats 4000000 in
theorem wX7_word_25 {z : Nat} {N : Nat} {r : Int32} {T : zS} (X : zX D cy p s m meth c cX7_word 5 RX7 (some .int))  {S : zS} (h : rX7_word_25 N S = some (r, T)) : zWt D cy A p l e { frames := 1, cells := 0, slots := 0, locals := 20 } s m args below meth c z 0 0 0 0 (zQ D cy A T z (some (.int r))) S 5 25 [] [] := by
  obtain ⟨hx, hb, hml, hown, hr, hlocks, hT⟩ := id X
  intro H locs ls hH hS hl
  unfold rX7_word_25 at h
  refine lv_iconst (v := (-1 : Int32)) hx hb dX7_word_25 (by decide) ?_
  exact z_iret X hH hS h dX7_word_26
set_option maxRecDepth 100000 in
set_option maxHeartbeats 4000000 in
theorem wX7_word_0 {z : Nat} {N : Nat} {r : Int32} {T : zS} (X : zX D cy p s m meth c cX7_word 5 RX7 (some .int))  {S : zS} {x0 : Nat} {x1 : Int32} {x2 : Int32} {x3 : Int32} (h : rX7_word_0 N S x0 x1 x2 x3 = some (r, T)) : zWt D cy A p l e { frames := 1, cells := 0, slots := 0, locals := 20 } s m args below meth c z 0 0 0 0 (zQ D cy A T z (some (.int r))) S 5 0 [(0, .ref x0), (1, .int x1), (2, .int x2), (3, .int x3)] [] := by
  obtain ⟨hx, hb, hml, hown, hr, hlocks, hT⟩ := id X
  intro H locs ls hH hS hl
  unfold rX7_word_0 at h
  refine lv_iload_n hx hb dX7_word_0 rfl (lv_at hl 1 rfl) ?_
  obtain ⟨v2, S1, eS1, h⟩ := zb2_some h
  refine z_cS (As := [.int x1]) X hl hH hS mlX7_93 (kX7_isRoom eS1) rfl rfl (Nat.le_of_ble_eq_true rfl) ⟨rfl, rfl, Nat.le_of_ble_eq_true rfl, Nat.le_of_ble_eq_true rfl⟩ ⟨Nat.le_refl _, Nat.le_refl _⟩ dX7_word_1 (fun H locs hH hS => ?_)
  refine lv_if_eq (tgt := 25) hx hb dX7_word_4 (by decide) (fun c => ?_) (fun c => ?_)
  · have h := (if_pos c).symm.trans h
    exact wX7_word_25 X h _ _ _ hH hS (lv_sub hl [] rfl)
  · have h := (if_neg c).symm.trans h
    refine lv_iload_n hx hb dX7_word_7 rfl (lv_at hl 2 rfl) ?_
    obtain ⟨v4, S3, eS3, h⟩ := zb2_some h
    refine z_cS (As := [.int x2]) X hl hH hS mlX7_96 (kX7_isWord eS3) rfl rfl (Nat.le_of_ble_eq_true rfl) ⟨rfl, rfl, Nat.le_of_ble_eq_true rfl, Nat.le_of_ble_eq_true rfl⟩ ⟨Nat.le_refl _, Nat.le_refl _⟩ dX7_word_8 (fun H locs hH hS => ?_)
    refine lv_if_eq (tgt := 25) hx hb dX7_word_11 (by decide) (fun c => ?_) (fun c => ?_)
    · have h := (if_pos c).symm.trans h
      exact wX7_word_25 X h _ _ _ hH hS (lv_sub hl [] rfl)
    · have h := (if_neg c).symm.trans h
      refine lv_iload_n hx hb dX7_word_14 rfl (lv_at hl 3 rfl) ?_
      refine lv_if_lt (tgt := 25) hx hb dX7_word_15 (by decide) (fun c => ?_) (fun c => ?_)
      · have h := (if_pos c).symm.trans h
        exact wX7_word_25 X h _ _ _ hH hS (lv_sub hl [] rfl)
      · have h := (if_neg c).symm.trans h
        refine lv_iload_n hx hb dX7_word_18 rfl (lv_at hl 3 rfl) ?_
        refine lv_sipush (v := (255 : Int32)) hx hb dX7_word_19 (by decide) ?_
        refine lv_icmp_le (tgt := 27) hx hb dX7_word_22 (by decide) (fun c => ?_) (fun c => ?_)
        · have h := (if_pos c).symm.trans h
          refine lv_aload_n hx hb dX7_word_27 rfl (lv_at hl 0 rfl) ?_
          obtain ⟨v5, ev5, h⟩ := zb_some h
          refine z_getr X flX7_25 hH ev5 dX7_word_28 ?_
          refine lv_iload_n hx hb dX7_word_31 rfl (lv_at hl 1 rfl) ?_
          obtain ⟨v6, ev6, h⟩ := zb_some h
          refine z_aald X hH 13 (by decide) ev6 dX7_word_32 ?_
          refine lv_iload_n hx hb dX7_word_33 rfl (lv_at hl 2 rfl) ?_
          obtain ⟨v7, ev7, h⟩ := zb_some h
          refine z_iald X hH ev7 dX7_word_34 ?_
          refine lv_istore (lv' := [(4, .int v7), (0, .ref x0), (1, .int x1), (2, .int x2), (3, .int x3)]) hx hb dX7_word_35 hl (by decide) rfl (fun ls hl => ?_)
          refine lv_aload_n hx hb dX7_word_37 rfl (lv_at hl 1 rfl) ?_
          obtain ⟨v8, ev8, h⟩ := zb_some h
          refine z_getr X flX7_25 hH ev8 dX7_word_38 ?_
          refine lv_iload_n hx hb dX7_word_41 rfl (lv_at hl 2 rfl) ?_
          obtain ⟨v9, ev9, h⟩ := zb_some h
          refine z_aald X hH 13 (by decide) ev9 dX7_word_42 ?_
          refine lv_iload_n hx hb dX7_word_43 rfl (lv_at hl 3 rfl) ?_
          refine lv_iload_n hx hb dX7_word_44 rfl (lv_at hl 4 rfl) ?_
          obtain ⟨S10, eS10, h⟩ := zb_some h
          refine z_iast X hH hS eS10 dX7_word_45 (fun H locs hH hS => ?_)
          refine lv_iload hx hb dX7_word_46 (lv_at hl 0 rfl) ?_
          exact z_iret X hH hS h dX7_word_48
        · have h := (if_neg c).symm.trans h
          exact wX7_word_25 X h _ _ _ hH hS (lv_sub hl [] rfl)
set_option maxRecDepth 100000 in
theorem kX7_word {N : Nat} {r : Int32} {T : zS} {S : zS} {z : Nat} {x0 : Nat} {x1 : Int32} {x2 : Int32} {x3 : Int32} (h : rX7_word N S x0 x1 x2 x3 = some (r, T)) : Met l yX7_word [.code yX7_word cX7_word 5 (some .int)] { frames := 1, cells := 0, slots := 0, locals := 20 } (zP D cy A S z [.ref x0, .int x1, .int x2, .int x3]) (zQ D cy A T z (some (.int r))) 0 0 A := by
  refine z_met (lv := [(0, .ref x0), (1, .int x1), (2, .int x2), (3, .int x3)]) (by decide) (Nat.le_of_ble_eq_true rfl) rfl ?_
  intro p e s m below meth c X H locs ls hH hS hl
  exact wX7_word_0 X h _ _ _ hH hS (lv_sub hl [0, 1, 2, 3] rfl)
set_option maxRecDepth 100000 in
set_option maxHeartbeats 4000000 in
theorem wX7_areRooms_19 {z : Nat} {N : Nat} {r : Int32} {T : zS} (X : zX D cy p s m meth c cX7_areRooms 2 RX7 (some .boolean))  {S : zS} {y0 : Int32} (h : rX7_areRooms_19 N S y0 = some (r, T)) : zWt D cy A p l e { frames := 1, cells := 0, slots := 0, locals := 20 } s m args below meth c z 0 0 0 0 (zQ D cy A T z (some (.int r))) S 2 19 [] [.int y0] := by
  obtain ⟨hx, hb, hml, hown, hr, hlocks, hT⟩ := id X
  intro H locs ls hH hS hl
  unfold rX7_areRooms_19 at h
  exact z_zret X hH hS h dX7_areRooms_19
set_option maxRecDepth 100000 in
set_option maxHeartbeats 4000000 in
theorem wX7_areRooms_18 {z : Nat} {N : Nat} {r : Int32} {T : zS} (X : zX D cy p s m meth c cX7_areRooms 2 RX7 (some .boolean))  {S : zS} (h : rX7_areRooms_18 N S = some (r, T)) : zWt D cy A p l e { frames := 1, cells := 0, slots := 0, locals := 20 } s m args below meth c z 0 0 0 0 (zQ D cy A T z (some (.int r))) S 2 18 [] [] := by
  obtain ⟨hx, hb, hml, hown, hr, hlocks, hT⟩ := id X
  intro H locs ls hH hS hl
  unfold rX7_areRooms_18 at h
  refine lv_iconst (v := (0 : Int32)) hx hb dX7_areRooms_18 (by decide) ?_
  exact wX7_areRooms_19 X h _ _ _ hH hS (lv_sub hl [] rfl)
set_option maxRecDepth 100000 in
set_option maxHeartbeats 4000000 in
theorem wX7_areRooms_0 {z : Nat} {N : Nat} {r : Int32} {T : zS} (X : zX D cy p s m meth c cX7_areRooms 2 RX7 (some .boolean))  {S : zS} {x0 : Int32} {x1 : Int32} (h : rX7_areRooms_0 N S x0 x1 = some (r, T)) : zWt D cy A p l e { frames := 1, cells := 0, slots := 0, locals := 20 } s m args below meth c z 0 0 0 0 (zQ D cy A T z (some (.int r))) S 2 0 [(0, .int x0), (1, .int x1)] [] := by
  obtain ⟨hx, hb, hml, hown, hr, hlocks, hT⟩ := id X
  intro H locs ls hH hS hl
  unfold rX7_areRooms_0 at h
  refine lv_iload_n hx hb dX7_areRooms_0 rfl (lv_at hl 0 rfl) ?_
  obtain ⟨v2, S1, eS1, h⟩ := zb2_some h
  refine z_cS (As := [.int x0]) X hl hH hS mlX7_93 (kX7_isRoom eS1) rfl rfl (Nat.le_of_ble_eq_true rfl) ⟨rfl, rfl, Nat.le_of_ble_eq_true rfl, Nat.le_of_ble_eq_true rfl⟩ ⟨Nat.le_refl _, Nat.le_refl _⟩ dX7_areRooms_1 (fun H locs hH hS => ?_)
  refine lv_if_eq (tgt := 18) hx hb dX7_areRooms_4 (by decide) (fun c => ?_) (fun c => ?_)
  · have h := (if_pos c).symm.trans h
    exact wX7_areRooms_18 X h _ _ _ hH hS (lv_sub hl [] rfl)
  · have h := (if_neg c).symm.trans h
    refine lv_iload_n hx hb dX7_areRooms_7 rfl (lv_at hl 1 rfl) ?_
    obtain ⟨v4, S3, eS3, h⟩ := zb2_some h
    refine z_cS (As := [.int x1]) X hl hH hS mlX7_93 (kX7_isRoom eS3) rfl rfl (Nat.le_of_ble_eq_true rfl) ⟨rfl, rfl, Nat.le_of_ble_eq_true rfl, Nat.le_of_ble_eq_true rfl⟩ ⟨Nat.le_refl _, Nat.le_refl _⟩ dX7_areRooms_8 (fun H locs hH hS => ?_)
    refine lv_if_eq (tgt := 18) hx hb dX7_areRooms_11 (by decide) (fun c => ?_) (fun c => ?_)
    · have h := (if_pos c).symm.trans h
      exact wX7_areRooms_18 X h _ _ _ hH hS (lv_sub hl [] rfl)
    · have h := (if_neg c).symm.trans h
      refine lv_iconst (v := (1 : Int32)) hx hb dX7_areRooms_14 (by decide) ?_
      refine lv_goto (tgt := 19) hx hb dX7_areRooms_15 (by decide) ?_
      exact wX7_areRooms_19 X h _ _ _ hH hS (lv_sub hl [] rfl)
set_option maxRecDepth 100000 in
theorem kX7_areRooms {N : Nat} {r : Int32} {T : zS} {S : zS} {z : Nat} {x0 : Int32} {x1 : Int32} (h : rX7_areRooms N S x0 x1 = some (r, T)) : Met l yX7_areRooms [.code yX7_areRooms cX7_areRooms 2 (some .boolean)] { frames := 1, cells := 0, slots := 0, locals := 20 } (zP D cy A S z [.int x0, .int x1]) (zQ D cy A T z (some (.int r))) 0 0 A := by
  refine z_met (lv := [(0, .int x0), (1, .int x1)]) (by decide) (Nat.le_of_ble_eq_true rfl) rfl ?_
  intro p e s m below meth c X H locs ls hH hS hl
  exact wX7_areRooms_0 X h _ _ _ hH hS (lv_sub hl [0, 1] rfl)
set_option maxRecDepth 100000 in
set_option maxHeartbeats 4000000 in
theorem wX7_unlikeWords_40 {z : Nat} {N : Nat} {r : Int32} {T : zS} (X : zX D cy p s m meth c cX7_unlikeWords 5 RX7 (some .int)) {K5 : zS × Nat × Int32 × Int32 × Int32 × Int32 → Option (Int32 × zS)} (hK5 : ∀ (S : zS) (x0 : Nat) (x1 : Int32) (x2 : Int32) (x3 : Int32) (x4 : Int32), K5 (S, x0, x1, x2, x3, x4) = some (r, T) → zWt D cy A p l e { frames := 0, cells := 0, slots := 0, locals := 0 } s m args below meth c z 0 0 0 0 (zQ D cy A T z (some (.int r))) S 5 5 [(0, .ref x0), (1, .int x1), (2, .int x2), (3, .int x3), (4, .int x4)] []) {S : zS} {x0 : Nat} {x1 : Int32} {x2 : Int32} {x3 : Int32} {x4 : Int32} (h : rX7_unlikeWords_40 N K5 S x0 x1 x2 x3 x4 = some (r, T)) : zWt D cy A p l e { frames := 0, cells := 0, slots := 0, locals := 0 } s m args below meth c z 0 0 0 0 (zQ D cy A T z (some (.int r))) S 5 40 [(0, .ref x0), (1, .int x1), (2, .int x2), (3, .int x3), (4, .int x4)] [] := by
  obtain ⟨hx, hb, hml, hown, hr, hlocks, hT⟩ := id X
  intro H locs ls hH hS hl
  unfold rX7_unlikeWords_40 at h
  refine lv_iinc (v := (x4 + (1 : Int32))) (lv' := [(4, .int (x4 + (1 : Int32))), (0, .ref x0), (1, .int x1), (2, .int x2), (3, .int x3)]) hx hb dX7_unlikeWords_40 hl (k := 4) rfl (z_ii (by decide) _) (by decide) rfl (fun ls hl => ?_)
  refine lv_goto (tgt := 5) hx hb dX7_unlikeWords_43 (by decide) ?_
  exact hK5 _ _ _ _ _ _ h _ _ _ hH hS (lv_sub hl [1, 2, 3, 4, 0] rfl)
set_option maxRecDepth 100000 in
set_option maxHeartbeats 4000000 in
theorem wX7_unlikeWords_5 {z : Nat} {N : Nat} {r : Int32} {T : zS} (X : zX D cy p s m meth c cX7_unlikeWords 5 RX7 (some .int)) {K5 : zS × Nat × Int32 × Int32 × Int32 × Int32 → Option (Int32 × zS)} (hK5 : ∀ (S : zS) (x0 : Nat) (x1 : Int32) (x2 : Int32) (x3 : Int32) (x4 : Int32), K5 (S, x0, x1, x2, x3, x4) = some (r, T) → zWt D cy A p l e { frames := 0, cells := 0, slots := 0, locals := 0 } s m args below meth c z 0 0 0 0 (zQ D cy A T z (some (.int r))) S 5 5 [(0, .ref x0), (1, .int x1), (2, .int x2), (3, .int x3), (4, .int x4)] []) {S : zS} {x0 : Nat} {x1 : Int32} {x2 : Int32} {x3 : Int32} {x4 : Int32} (h : rX7_unlikeWords_5 N K5 S x0 x1 x2 x3 x4 = some (r, T)) : zWt D cy A p l e { frames := 0, cells := 0, slots := 0, locals := 0 } s m args below meth c z 0 0 0 0 (zQ D cy A T z (some (.int r))) S 5 5 [(0, .ref x0), (1, .int x1), (2, .int x2), (3, .int x3), (4, .int x4)] [] := by
  obtain ⟨hx, hb, hml, hown, hr, hlocks, hT⟩ := id X
  intro H locs ls hH hS hl
  unfold rX7_unlikeWords_5 at h
  refine lv_iload hx hb dX7_unlikeWords_5 (lv_at hl 4 rfl) ?_
  refine lv_bipush (v := (8 : Int32)) hx hb dX7_unlikeWords_7 (by decide) ?_
  refine lv_icmp_ge (tgt := 46) hx hb dX7_unlikeWords_9 (by decide) (fun c => ?_) (fun c => ?_)
  · have h := (if_pos c).symm.trans h
    refine lv_iload_n hx hb dX7_unlikeWords_46 rfl (lv_at hl 3 rfl) ?_
    exact z_iret X hH hS h dX7_unlikeWords_47
  · have h := (if_neg c).symm.trans h
    refine lv_aload_n hx hb dX7_unlikeWords_12 rfl (lv_at hl 0 rfl) ?_
    obtain ⟨v1, ev1, h⟩ := zb_some h
    refine z_getr X flX7_25 hH ev1 dX7_unlikeWords_13 ?_
    refine lv_iload_n hx hb dX7_unlikeWords_16 rfl (lv_at hl 1 rfl) ?_
    obtain ⟨v2, ev2, h⟩ := zb_some h
    refine z_aald X hH 13 (by decide) ev2 dX7_unlikeWords_17 ?_
    refine lv_iload hx hb dX7_unlikeWords_18 (lv_at hl 4 rfl) ?_
    obtain ⟨v3, ev3, h⟩ := zb_some h
    refine z_iald X hH ev3 dX7_unlikeWords_20 ?_
    refine lv_aload_n hx hb dX7_unlikeWords_21 rfl (lv_at hl 0 rfl) ?_
    obtain ⟨v4, ev4, h⟩ := zb_some h
    refine z_getr X flX7_25 hH ev4 dX7_unlikeWords_22 ?_
    refine lv_iload_n hx hb dX7_unlikeWords_25 rfl (lv_at hl 2 rfl) ?_
    obtain ⟨v5, ev5, h⟩ := zb_some h
    refine z_aald X hH 13 (by decide) ev5 dX7_unlikeWords_26 ?_
    refine lv_iload hx hb dX7_unlikeWords_27 (lv_at hl 4 rfl) ?_
    obtain ⟨v6, ev6, h⟩ := zb_some h
    refine z_iald X hH ev6 dX7_unlikeWords_29 ?_
    refine lv_icmp_eq (tgt := 40) hx hb dX7_unlikeWords_30 (by decide) (fun c => ?_) (fun c => ?_)
    · have h := (if_pos c).symm.trans h
      exact wX7_unlikeWords_40 X hK5 h _ _ _ hH hS (lv_sub hl [0, 1, 2, 3, 4] rfl)
    · have h := (if_neg c).symm.trans h
      refine lv_iload_n hx hb dX7_unlikeWords_33 rfl (lv_at hl 3 rfl) ?_
      refine lv_iconst (v := (1 : Int32)) hx hb dX7_unlikeWords_34 (by decide) ?_
      refine lv_iload hx hb dX7_unlikeWords_35 (lv_at hl 4 rfl) ?_
      refine lv_ishl hx hb dX7_unlikeWords_37 ?_
      refine lv_ior hx hb dX7_unlikeWords_38 ?_
      refine lv_topi (fun v7 ev7 => ?_)
      have h := zlet_at ev7 h
      refine lv_istore_n (lv' := [(3, .int v7), (0, .ref x0), (1, .int x1), (2, .int x2), (4, .int x4)]) hx hb dX7_unlikeWords_39 rfl hl (by decide) rfl (fun ls hl => ?_)
      exact wX7_unlikeWords_40 X hK5 h _ _ _ hH hS (lv_sub hl [1, 2, 3, 0, 4] rfl)
set_option maxRecDepth 100000 in
set_option maxHeartbeats 4000000 in
theorem uX7_unlikeWords_5 {z : Nat} {N : Nat} {r : Int32} {T : zS} (X : zX D cy p s m meth c cX7_unlikeWords 5 RX7 (some .int))  {S : zS} {x0 : Nat} {x1 : Int32} {x2 : Int32} {x3 : Int32} {x4 : Int32} (h : rlX7_unlikeWords_5 N S x0 x1 x2 x3 x4 = some (r, T)) : zWt D cy A p l e { frames := 0, cells := 0, slots := 0, locals := 0 } s m args below meth c z 0 0 0 0 (zQ D cy A T z (some (.int r))) S 5 5 [(0, .ref x0), (1, .int x1), (2, .int x2), (3, .int x3), (4, .int x4)] [] := by
  unfold rlX7_unlikeWords_5 at h
  refine zloop_ind (P := fun y => zWt D cy A p l e { frames := 0, cells := 0, slots := 0, locals := 0 } s m args below meth c z 0 0 0 0 (zQ D cy A T z (some (.int r))) y.1 5 5 [(0, .ref y.2.1), (1, .int y.2.2.1), (2, .int y.2.2.2.1), (3, .int y.2.2.2.2.1), (4, .int y.2.2.2.2.2)] []) ?_ N (S, x0, x1, x2, x3, x4) h
  intro K hK y hy
  obtain ⟨S, x0, x1, x2, x3, x4⟩ := y
  exact wX7_unlikeWords_5 X (fun S x0 x1 x2 x3 x4 hq => hK (S, x0, x1, x2, x3, x4) hq) hy
set_option maxRecDepth 100000 in
set_option maxHeartbeats 4000000 in
theorem wX7_unlikeWords_0 {z : Nat} {N : Nat} {r : Int32} {T : zS} (X : zX D cy p s m meth c cX7_unlikeWords 5 RX7 (some .int))  {S : zS} {x0 : Nat} {x1 : Int32} {x2 : Int32} (h : rX7_unlikeWords_0 N S x0 x1 x2 = some (r, T)) : zWt D cy A p l e { frames := 0, cells := 0, slots := 0, locals := 0 } s m args below meth c z 0 0 0 0 (zQ D cy A T z (some (.int r))) S 5 0 [(0, .ref x0), (1, .int x1), (2, .int x2)] [] := by
  obtain ⟨hx, hb, hml, hown, hr, hlocks, hT⟩ := id X
  intro H locs ls hH hS hl
  unfold rX7_unlikeWords_0 at h
  refine lv_iconst (v := (0 : Int32)) hx hb dX7_unlikeWords_0 (by decide) ?_
  refine lv_istore_n (lv' := [(3, .int (0 : Int32)), (0, .ref x0), (1, .int x1), (2, .int x2)]) hx hb dX7_unlikeWords_1 rfl hl (by decide) rfl (fun ls hl => ?_)
  refine lv_iconst (v := (0 : Int32)) hx hb dX7_unlikeWords_2 (by decide) ?_
  refine lv_istore (lv' := [(4, .int (0 : Int32)), (3, .int (0 : Int32)), (0, .ref x0), (1, .int x1), (2, .int x2)]) hx hb dX7_unlikeWords_3 hl (by decide) rfl (fun ls hl => ?_)
  exact uX7_unlikeWords_5 X h _ _ _ hH hS (lv_sub hl [2, 3, 4, 1, 0] rfl)
set_option maxRecDepth 100000 in
theorem kX7_unlikeWords {N : Nat} {r : Int32} {T : zS} {S : zS} {z : Nat} {x0 : Nat} {x1 : Int32} {x2 : Int32} (h : rX7_unlikeWords N S x0 x1 x2 = some (r, T)) : Met l yX7_unlikeWords [.code yX7_unlikeWords cX7_unlikeWords 5 (some .int)] { frames := 0, cells := 0, slots := 0, locals := 0 } (zP D cy A S z [.ref x0, .int x1, .int x2]) (zQ D cy A T z (some (.int r))) 0 0 A := by
  refine z_met (lv := [(0, .ref x0), (1, .int x1), (2, .int x2)]) (by decide) (Nat.le_of_ble_eq_true rfl) rfl ?_
  intro p e s m below meth c X H locs ls hH hS hl
  exact wX7_unlikeWords_0 X h _ _ _ hH hS (lv_sub hl [0, 1, 2] rfl)
set_option maxRecDepth 100000 in
set_option maxHeartbeats 4000000 in
theorem wX7_copy_0 {z : Nat} {N : Nat} {r : Int32} {T : zS} (X : zX D cy p s m meth c cX7_copy 4 RX7 (some .int))  {S : zS} {x0 : Nat} {x1 : Int32} {x2 : Int32} (h : rX7_copy_0 N S x0 x1 x2 = some (r, T)) : zWt D cy A p l e { frames := 2, cells := 0, slots := 0, locals := 41 } s m args below meth c z 0 0 0 0 (zQ D cy A T z (some (.int r))) S 4 0 [(0, .ref x0), (1, .int x1), (2, .int x2)] [] := by
  obtain ⟨hx, hb, hml, hown, hr, hlocks, hT⟩ := id X
  intro H locs ls hH hS hl
  unfold rX7_copy_0 at h
  refine lv_iload_n hx hb dX7_copy_0 rfl (lv_at hl 1 rfl) ?_
  refine lv_iload_n hx hb dX7_copy_1 rfl (lv_at hl 2 rfl) ?_
  obtain ⟨v2, S1, eS1, h⟩ := zb2_some h
  refine z_cS (As := [.int x1, .int x2]) X hl hH hS mlX7_99 (kX7_areRooms eS1) rfl rfl (Nat.le_of_ble_eq_true rfl) ⟨rfl, rfl, Nat.le_of_ble_eq_true rfl, Nat.le_of_ble_eq_true rfl⟩ ⟨Nat.le_refl _, Nat.le_refl _⟩ dX7_copy_2 (fun H locs hH hS => ?_)
  refine lv_if_ne (tgt := 10) hx hb dX7_copy_5 (by decide) (fun c => ?_) (fun c => ?_)
  · have h := (if_neg c).symm.trans h
    refine lv_aload_n hx hb dX7_copy_10 rfl (lv_at hl 0 rfl) ?_
    refine lv_iload_n hx hb dX7_copy_11 rfl (lv_at hl 1 rfl) ?_
    refine lv_iload_n hx hb dX7_copy_12 rfl (lv_at hl 2 rfl) ?_
    obtain ⟨u3, eu3, h⟩ := zb_some h
    obtain ⟨v5, S4, eS4, h⟩ := zb2_some h
    refine z_cV (As := [.int x1, .int x2]) X hl hH hS mlX7_103 eu3 (kX7_unlikeWords eS4) rfl rfl (Nat.le_of_ble_eq_true rfl) ⟨rfl, rfl, Nat.le_of_ble_eq_true rfl, Nat.le_of_ble_eq_true rfl⟩ ⟨Nat.le_refl _, Nat.le_refl _⟩ dX7_copy_13 (fun H locs hH hS => ?_)
    obtain ⟨v7, S6, eS6, h⟩ := zb2_some h
    refine z_cS (As := [.int v5]) X hl hH hS mlX7_107 (kJ6_bitCount_0f7a4 eS6) rfl rfl (Nat.le_of_ble_eq_true rfl) ⟨rfl, rfl, Nat.le_of_ble_eq_true rfl, Nat.le_of_ble_eq_true rfl⟩ ⟨Nat.le_refl _, Nat.le_refl _⟩ dX7_copy_16 (fun H locs hH hS => ?_)
    refine lv_istore_n (lv' := [(3, .int v7), (0, .ref x0), (1, .int x1), (2, .int x2)]) hx hb dX7_copy_19 rfl hl (by decide) rfl (fun ls hl => ?_)
    refine lv_aload_n hx hb dX7_copy_20 rfl (lv_at hl 1 rfl) ?_
    obtain ⟨v8, ev8, h⟩ := zb_some h
    refine z_getr X flX7_25 hH ev8 dX7_copy_21 ?_
    refine lv_iload_n hx hb dX7_copy_24 rfl (lv_at hl 2 rfl) ?_
    obtain ⟨v9, ev9, h⟩ := zb_some h
    refine z_aald X hH 13 (by decide) ev9 dX7_copy_25 ?_
    refine lv_iconst (v := (0 : Int32)) hx hb dX7_copy_26 (by decide) ?_
    refine lv_aload_n hx hb dX7_copy_27 rfl (lv_at hl 1 rfl) ?_
    obtain ⟨v10, ev10, h⟩ := zb_some h
    refine z_getr X flX7_25 hH ev10 dX7_copy_28 ?_
    refine lv_iload_n hx hb dX7_copy_31 rfl (lv_at hl 3 rfl) ?_
    obtain ⟨v11, ev11, h⟩ := zb_some h
    refine z_aald X hH 13 (by decide) ev11 dX7_copy_32 ?_
    refine lv_iconst (v := (0 : Int32)) hx hb dX7_copy_33 (by decide) ?_
    refine lv_bipush (v := (8 : Int32)) hx hb dX7_copy_34 (by decide) ?_
    obtain ⟨S12, eS12, h⟩ := zb_some h
    refine z_copy X hl hH hS eS12 cpX7_112 cp_n cp_s cp_i (Nat.le_of_ble_eq_true rfl) (Nat.le_of_ble_eq_true rfl) dX7_copy_36 (fun H locs hH hS => ?_)
    refine lv_iload_n hx hb dX7_copy_39 rfl (lv_at hl 0 rfl) ?_
    exact z_iret X hH hS h dX7_copy_40
  · have h := (if_pos c).symm.trans h
    refine lv_iconst (v := (-1 : Int32)) hx hb dX7_copy_8 (by decide) ?_
    exact z_iret X hH hS h dX7_copy_9
set_option maxRecDepth 100000 in
theorem kX7_copy {N : Nat} {r : Int32} {T : zS} {S : zS} {z : Nat} {x0 : Nat} {x1 : Int32} {x2 : Int32} (h : rX7_copy N S x0 x1 x2 = some (r, T)) : Met l yX7_copy [.code yX7_copy cX7_copy 4 (some .int)] { frames := 2, cells := 0, slots := 0, locals := 41 } (zP D cy A S z [.ref x0, .int x1, .int x2]) (zQ D cy A T z (some (.int r))) 0 0 A := by
  refine z_met (lv := [(0, .ref x0), (1, .int x1), (2, .int x2)]) (by decide) (Nat.le_of_ble_eq_true rfl) rfl ?_
  intro p e s m below meth c X H locs ls hH hS hl
  exact wX7_copy_0 X h _ _ _ hH hS (lv_sub hl [0, 1, 2] rfl)
set_option maxRecDepth 100000 in
set_option maxHeartbeats 4000000 in
theorem wX7_step_31 {z : Nat} {N : Nat} {r : Int32} {T : zS} (X : zX D cy p s m meth c cX7_step 4 RX7 (some .int))  {S : zS} (h : rX7_step_31 N S = some (r, T)) : zWt D cy A p l e { frames := 2, cells := 0, slots := 0, locals := 46 } s m args below meth c z 0 0 0 0 (zQ D cy A T z (some (.int r))) S 4 31 [] [] := by
  obtain ⟨hx, hb, hml, hown, hr, hlocks, hT⟩ := id X
  intro H locs ls hH hS hl
  unfold rX7_step_31 at h
  refine lv_iconst (v := (-1 : Int32)) hx hb dX7_step_31 (by decide) ?_
  exact z_iret X hH hS h dX7_step_32
set_option maxRecDepth 100000 in
set_option maxHeartbeats 4000000 in
theorem wX7_step_0 {z : Nat} {N : Nat} {r : Int32} {T : zS} (X : zX D cy p s m meth c cX7_step 4 RX7 (some .int))  {S : zS} {x0 : Nat} {x1 : Int32} {x2 : Int32} {x3 : Int32} (h : rX7_step_0 N S x0 x1 x2 x3 = some (r, T)) : zWt D cy A p l e { frames := 2, cells := 0, slots := 0, locals := 46 } s m args below meth c z 0 0 0 0 (zQ D cy A T z (some (.int r))) S 4 0 [(0, .ref x0), (1, .int x1), (2, .int x2), (3, .int x3)] [] := by
  obtain ⟨hx, hb, hml, hown, hr, hlocks, hT⟩ := id X
  intro H locs ls hH hS hl
  unfold rX7_step_0 at h
  refine lv_iload_n hx hb dX7_step_0 rfl (lv_at hl 1 rfl) ?_
  refine lv_if_lt (tgt := 31) hx hb dX7_step_1 (by decide) (fun c => ?_) (fun c => ?_)
  · have h := (if_pos c).symm.trans h
    exact wX7_step_31 X h _ _ _ hH hS (lv_sub hl [] rfl)
  · have h := (if_neg c).symm.trans h
    refine lv_iload_n hx hb dX7_step_4 rfl (lv_at hl 1 rfl) ?_
    refine lv_bipush (v := (7 : Int32)) hx hb dX7_step_5 (by decide) ?_
    refine lv_icmp_gt (tgt := 31) hx hb dX7_step_7 (by decide) (fun c => ?_) (fun c => ?_)
    · have h := (if_pos c).symm.trans h
      exact wX7_step_31 X h _ _ _ hH hS (lv_sub hl [] rfl)
    · have h := (if_neg c).symm.trans h
      refine lv_iload_n hx hb dX7_step_10 rfl (lv_at hl 2 rfl) ?_
      refine lv_if_lt (tgt := 31) hx hb dX7_step_11 (by decide) (fun c => ?_) (fun c => ?_)
      · have h := (if_pos c).symm.trans h
        exact wX7_step_31 X h _ _ _ hH hS (lv_sub hl [] rfl)
      · have h := (if_neg c).symm.trans h
        refine lv_iload_n hx hb dX7_step_14 rfl (lv_at hl 2 rfl) ?_
        refine lv_sipush (v := (255 : Int32)) hx hb dX7_step_15 (by decide) ?_
        refine lv_icmp_gt (tgt := 31) hx hb dX7_step_18 (by decide) (fun c => ?_) (fun c => ?_)
        · have h := (if_pos c).symm.trans h
          exact wX7_step_31 X h _ _ _ hH hS (lv_sub hl [] rfl)
        · have h := (if_neg c).symm.trans h
          refine lv_iload_n hx hb dX7_step_21 rfl (lv_at hl 3 rfl) ?_
          refine lv_if_lt (tgt := 31) hx hb dX7_step_22 (by decide) (fun c => ?_) (fun c => ?_)
          · have h := (if_pos c).symm.trans h
            exact wX7_step_31 X h _ _ _ hH hS (lv_sub hl [] rfl)
          · have h := (if_neg c).symm.trans h
            refine lv_iload_n hx hb dX7_step_25 rfl (lv_at hl 3 rfl) ?_
            refine lv_bipush (v := (8 : Int32)) hx hb dX7_step_26 (by decide) ?_
            refine lv_icmp_lt (tgt := 33) hx hb dX7_step_28 (by decide) (fun c => ?_) (fun c => ?_)
            · have h := (if_pos c).symm.trans h
              refine lv_aload_n hx hb dX7_step_33 rfl (lv_at hl 0 rfl) ?_
              obtain ⟨v1, ev1, h⟩ := zb_some h
              refine z_getr X flX7_19 hH ev1 dX7_step_34 ?_
              obtain ⟨v2, ev2, h⟩ := zb_some h
              refine z_geti X flX7_118 hH ev2 dX7_step_37 ?_
              refine lv_bipush (v := (24 : Int32)) hx hb dX7_step_40 (by decide) ?_
              refine lv_icmp_lt (tgt := 48) hx hb dX7_step_42 (by decide) (fun c => ?_) (fun c => ?_)
              · have h := (if_pos c).symm.trans h
                refine lv_aload_n hx hb dX7_step_48 rfl (lv_at hl 0 rfl) ?_
                obtain ⟨v3, ev3, h⟩ := zb_some h
                refine z_getr X flX7_19 hH ev3 dX7_step_49 ?_
                refine lv_iload_n hx hb dX7_step_52 rfl (lv_at hl 1 rfl) ?_
                refine lv_iload_n hx hb dX7_step_53 rfl (lv_at hl 2 rfl) ?_
                refine lv_iload_n hx hb dX7_step_54 rfl (lv_at hl 3 rfl) ?_
                obtain ⟨u4, eu4, h⟩ := zb_some h
                obtain ⟨v6, S5, eS5, h⟩ := zb2_some h
                refine z_cV (As := [.int x1, .int x2, .int x3]) X hl hH hS mlX7_119 eu4 (kX4_addStep eS5) rfl rfl (Nat.le_of_ble_eq_true rfl) ⟨rfl, rfl, Nat.le_of_ble_eq_true rfl, Nat.le_of_ble_eq_true rfl⟩ ⟨Nat.le_refl _, Nat.le_refl _⟩ dX7_step_55 (fun H locs hH hS => ?_)
                exact z_iret X hH hS h dX7_step_58
              · have h := (if_neg c).symm.trans h
                refine lv_bipush (v := (-3 : Int32)) hx hb dX7_step_45 (by decide) ?_
                exact z_iret X hH hS h dX7_step_47
            · have h := (if_neg c).symm.trans h
              exact wX7_step_31 X h _ _ _ hH hS (lv_sub hl [] rfl)
set_option maxRecDepth 100000 in
theorem kX7_step {N : Nat} {r : Int32} {T : zS} {S : zS} {z : Nat} {x0 : Nat} {x1 : Int32} {x2 : Int32} {x3 : Int32} (h : rX7_step N S x0 x1 x2 x3 = some (r, T)) : Met l yX7_step [.code yX7_step cX7_step 4 (some .int)] { frames := 2, cells := 0, slots := 0, locals := 46 } (zP D cy A S z [.ref x0, .int x1, .int x2, .int x3]) (zQ D cy A T z (some (.int r))) 0 0 A := by
  refine z_met (lv := [(0, .ref x0), (1, .int x1), (2, .int x2), (3, .int x3)]) (by decide) (Nat.le_of_ble_eq_true rfl) rfl ?_
  intro p e s m below meth c X H locs ls hH hS hl
  exact wX7_step_0 X h _ _ _ hH hS (lv_sub hl [0, 1, 2, 3] rfl)
set_option maxRecDepth 100000 in
set_option maxHeartbeats 4000000 in
theorem wX7_isInputFor_27 {z : Nat} {N : Nat} {r : Int32} {T : zS} (X : zX D cy p s m meth c cX7_isInputFor 3 RX7 (some .boolean))  {S : zS} {y0 : Int32} (h : rX7_isInputFor_27 N S y0 = some (r, T)) : zWt D cy A p l e { frames := 1, cells := 0, slots := 0, locals := 21 } s m args below meth c z 0 0 0 0 (zQ D cy A T z (some (.int r))) S 3 27 [] [.int y0] := by
  obtain ⟨hx, hb, hml, hown, hr, hlocks, hT⟩ := id X
  intro H locs ls hH hS hl
  unfold rX7_isInputFor_27 at h
  exact z_zret X hH hS h dX7_isInputFor_27
set_option maxRecDepth 100000 in
set_option maxHeartbeats 4000000 in
theorem wX7_isInputFor_26 {z : Nat} {N : Nat} {r : Int32} {T : zS} (X : zX D cy p s m meth c cX7_isInputFor 3 RX7 (some .boolean))  {S : zS} (h : rX7_isInputFor_26 N S = some (r, T)) : zWt D cy A p l e { frames := 1, cells := 0, slots := 0, locals := 21 } s m args below meth c z 0 0 0 0 (zQ D cy A T z (some (.int r))) S 3 26 [] [] := by
  obtain ⟨hx, hb, hml, hown, hr, hlocks, hT⟩ := id X
  intro H locs ls hH hS hl
  unfold rX7_isInputFor_26 at h
  refine lv_iconst (v := (0 : Int32)) hx hb dX7_isInputFor_26 (by decide) ?_
  exact wX7_isInputFor_27 X h _ _ _ hH hS (lv_sub hl [] rfl)
set_option maxRecDepth 100000 in
set_option maxHeartbeats 4000000 in
theorem wX7_isInputFor_22 {z : Nat} {N : Nat} {r : Int32} {T : zS} (X : zX D cy p s m meth c cX7_isInputFor 3 RX7 (some .boolean))  {S : zS} (h : rX7_isInputFor_22 N S = some (r, T)) : zWt D cy A p l e { frames := 1, cells := 0, slots := 0, locals := 21 } s m args below meth c z 0 0 0 0 (zQ D cy A T z (some (.int r))) S 3 22 [] [] := by
  obtain ⟨hx, hb, hml, hown, hr, hlocks, hT⟩ := id X
  intro H locs ls hH hS hl
  unfold rX7_isInputFor_22 at h
  refine lv_iconst (v := (1 : Int32)) hx hb dX7_isInputFor_22 (by decide) ?_
  refine lv_goto (tgt := 27) hx hb dX7_isInputFor_23 (by decide) ?_
  exact wX7_isInputFor_27 X h _ _ _ hH hS (lv_sub hl [] rfl)
set_option maxRecDepth 100000 in
set_option maxHeartbeats 4000000 in
theorem wX7_isInputFor_0 {z : Nat} {N : Nat} {r : Int32} {T : zS} (X : zX D cy p s m meth c cX7_isInputFor 3 RX7 (some .boolean))  {S : zS} {x0 : Nat} {x1 : Int32} {x2 : Int32} (h : rX7_isInputFor_0 N S x0 x1 x2 = some (r, T)) : zWt D cy A p l e { frames := 1, cells := 0, slots := 0, locals := 21 } s m args below meth c z 0 0 0 0 (zQ D cy A T z (some (.int r))) S 3 0 [(0, .ref x0), (1, .int x1), (2, .int x2)] [] := by
  obtain ⟨hx, hb, hml, hown, hr, hlocks, hT⟩ := id X
  intro H locs ls hH hS hl
  unfold rX7_isInputFor_0 at h
  refine lv_aload_n hx hb dX7_isInputFor_0 rfl (lv_at hl 0 rfl) ?_
  refine lv_iload_n hx hb dX7_isInputFor_1 rfl (lv_at hl 2 rfl) ?_
  obtain ⟨u1, eu1, h⟩ := zb_some h
  obtain ⟨v3, S2, eS2, h⟩ := zb2_some h
  refine z_cV (As := [.int x2]) X hl hH hS mlX7_80 eu1 (kX7_isText eS2) rfl rfl (Nat.le_of_ble_eq_true rfl) ⟨rfl, rfl, Nat.le_of_ble_eq_true rfl, Nat.le_of_ble_eq_true rfl⟩ ⟨Nat.le_refl _, Nat.le_refl _⟩ dX7_isInputFor_2 (fun H locs hH hS => ?_)
  refine lv_if_ne (tgt := 22) hx hb dX7_isInputFor_5 (by decide) (fun c => ?_) (fun c => ?_)
  · have h := (if_neg c).symm.trans h
    exact wX7_isInputFor_22 X h _ _ _ hH hS (lv_sub hl [] rfl)
  · have h := (if_pos c).symm.trans h
    refine lv_iload_n hx hb dX7_isInputFor_8 rfl (lv_at hl 2 rfl) ?_
    refine lv_bipush (v := (100 : Int32)) hx hb dX7_isInputFor_9 (by decide) ?_
    refine lv_icmp_lt (tgt := 26) hx hb dX7_isInputFor_11 (by decide) (fun c => ?_) (fun c => ?_)
    · have h := (if_pos c).symm.trans h
      exact wX7_isInputFor_26 X h _ _ _ hH hS (lv_sub hl [] rfl)
    · have h := (if_neg c).symm.trans h
      refine lv_iload_n hx hb dX7_isInputFor_14 rfl (lv_at hl 2 rfl) ?_
      refine lv_bipush (v := (100 : Int32)) hx hb dX7_isInputFor_15 (by decide) ?_
      refine lv_iload_n hx hb dX7_isInputFor_17 rfl (lv_at hl 1 rfl) ?_
      refine lv_iadd hx hb dX7_isInputFor_18 ?_
      refine lv_icmp_ge (tgt := 26) hx hb dX7_isInputFor_19 (by decide) (fun c => ?_) (fun c => ?_)
      · have h := (if_pos c).symm.trans h
        exact wX7_isInputFor_26 X h _ _ _ hH hS (lv_sub hl [] rfl)
      · have h := (if_neg c).symm.trans h
        exact wX7_isInputFor_22 X h _ _ _ hH hS (lv_sub hl [] rfl)
set_option maxRecDepth 100000 in
theorem kX7_isInputFor {N : Nat} {r : Int32} {T : zS} {S : zS} {z : Nat} {x0 : Nat} {x1 : Int32} {x2 : Int32} (h : rX7_isInputFor N S x0 x1 x2 = some (r, T)) : Met l yX7_isInputFor [.code yX7_isInputFor cX7_isInputFor 3 (some .boolean)] { frames := 1, cells := 0, slots := 0, locals := 21 } (zP D cy A S z [.ref x0, .int x1, .int x2]) (zQ D cy A T z (some (.int r))) 0 0 A := by
  refine z_met (lv := [(0, .ref x0), (1, .int x1), (2, .int x2)]) (by decide) (Nat.le_of_ble_eq_true rfl) rfl ?_
  intro p e s m below meth c X H locs ls hH hS hl
  exact wX7_isInputFor_0 X h _ _ _ hH hS (lv_sub hl [0, 1, 2] rfl)
set_option maxRecDepth 100000 in
set_option maxHeartbeats 4000000 in
theorem wX7_isStep_20 {z : Nat} {N : Nat} {r : Int32} {T : zS} (X : zX D cy p s m meth c cX7_isStep 2 RX7 (some .boolean))  {S : zS} {y0 : Int32} (h : rX7_isStep_20 N S y0 = some (r, T)) : zWt D cy A p l e { frames := 0, cells := 0, slots := 0, locals := 0 } s m args below meth c z 0 0 0 0 (zQ D cy A T z (some (.int r))) S 2 20 [] [.int y0] := by
  obtain ⟨hx, hb, hml, hown, hr, hlocks, hT⟩ := id X
  intro H locs ls hH hS hl
  unfold rX7_isStep_20 at h
  exact z_zret X hH hS h dX7_isStep_20
set_option maxRecDepth 100000 in
set_option maxHeartbeats 4000000 in
theorem wX7_isStep_19 {z : Nat} {N : Nat} {r : Int32} {T : zS} (X : zX D cy p s m meth c cX7_isStep 2 RX7 (some .boolean))  {S : zS} (h : rX7_isStep_19 N S = some (r, T)) : zWt D cy A p l e { frames := 0, cells := 0, slots := 0, locals := 0 } s m args below meth c z 0 0 0 0 (zQ D cy A T z (some (.int r))) S 2 19 [] [] := by
  obtain ⟨hx, hb, hml, hown, hr, hlocks, hT⟩ := id X
  intro H locs ls hH hS hl
  unfold rX7_isStep_19 at h
  refine lv_iconst (v := (0 : Int32)) hx hb dX7_isStep_19 (by decide) ?_
  exact wX7_isStep_20 X h _ _ _ hH hS (lv_sub hl [] rfl)
set_option maxRecDepth 100000 in
set_option maxHeartbeats 4000000 in
theorem wX7_isStep_0 {z : Nat} {N : Nat} {r : Int32} {T : zS} (X : zX D cy p s m meth c cX7_isStep 2 RX7 (some .boolean))  {S : zS} {x0 : Nat} {x1 : Int32} (h : rX7_isStep_0 N S x0 x1 = some (r, T)) : zWt D cy A p l e { frames := 0, cells := 0, slots := 0, locals := 0 } s m args below meth c z 0 0 0 0 (zQ D cy A T z (some (.int r))) S 2 0 [(0, .ref x0), (1, .int x1)] [] := by
  obtain ⟨hx, hb, hml, hown, hr, hlocks, hT⟩ := id X
  intro H locs ls hH hS hl
  unfold rX7_isStep_0 at h
  refine lv_iload_n hx hb dX7_isStep_0 rfl (lv_at hl 1 rfl) ?_
  refine lv_if_lt (tgt := 19) hx hb dX7_isStep_1 (by decide) (fun c => ?_) (fun c => ?_)
  · have h := (if_pos c).symm.trans h
    exact wX7_isStep_19 X h _ _ _ hH hS (lv_sub hl [] rfl)
  · have h := (if_neg c).symm.trans h
    refine lv_iload_n hx hb dX7_isStep_4 rfl (lv_at hl 1 rfl) ?_
    refine lv_aload_n hx hb dX7_isStep_5 rfl (lv_at hl 0 rfl) ?_
    obtain ⟨v1, ev1, h⟩ := zb_some h
    refine z_getr X flX7_19 hH ev1 dX7_isStep_6 ?_
    obtain ⟨v2, ev2, h⟩ := zb_some h
    refine z_geti X flX7_118 hH ev2 dX7_isStep_9 ?_
    refine lv_icmp_ge (tgt := 19) hx hb dX7_isStep_12 (by decide) (fun c => ?_) (fun c => ?_)
    · have h := (if_pos c).symm.trans h
      exact wX7_isStep_19 X h _ _ _ hH hS (lv_sub hl [] rfl)
    · have h := (if_neg c).symm.trans h
      refine lv_iconst (v := (1 : Int32)) hx hb dX7_isStep_15 (by decide) ?_
      refine lv_goto (tgt := 20) hx hb dX7_isStep_16 (by decide) ?_
      exact wX7_isStep_20 X h _ _ _ hH hS (lv_sub hl [] rfl)
set_option maxRecDepth 100000 in
theorem kX7_isStep {N : Nat} {r : Int32} {T : zS} {S : zS} {z : Nat} {x0 : Nat} {x1 : Int32} (h : rX7_isStep N S x0 x1 = some (r, T)) : Met l yX7_isStep [.code yX7_isStep cX7_isStep 2 (some .boolean)] { frames := 0, cells := 0, slots := 0, locals := 0 } (zP D cy A S z [.ref x0, .int x1]) (zQ D cy A T z (some (.int r))) 0 0 A := by
  refine z_met (lv := [(0, .ref x0), (1, .int x1)]) (by decide) (Nat.le_of_ble_eq_true rfl) rfl ?_
  intro p e s m below meth c X H locs ls hH hS hl
  exact wX7_isStep_0 X h _ _ _ hH hS (lv_sub hl [0, 1] rfl)
set_option maxRecDepth 100000 in
set_option maxHeartbeats 4000000 in
theorem wX7_need_17 {z : Nat} {N : Nat} {r : Int32} {T : zS} (X : zX D cy p s m meth c cX7_need 3 RX7 (some .int))  {S : zS} (h : rX7_need_17 N S = some (r, T)) : zWt D cy A p l e { frames := 2, cells := 0, slots := 0, locals := 43 } s m args below meth c z 0 0 0 0 (zQ D cy A T z (some (.int r))) S 3 17 [] [] := by
  obtain ⟨hx, hb, hml, hown, hr, hlocks, hT⟩ := id X
  intro H locs ls hH hS hl
  unfold rX7_need_17 at h
  refine lv_iconst (v := (-1 : Int32)) hx hb dX7_need_17 (by decide) ?_
  exact z_iret X hH hS h dX7_need_18
set_option maxRecDepth 100000 in
set_option maxHeartbeats 4000000 in
theorem wX7_need_0 {z : Nat} {N : Nat} {r : Int32} {T : zS} (X : zX D cy p s m meth c cX7_need 3 RX7 (some .int))  {S : zS} {x0 : Nat} {x1 : Int32} {x2 : Int32} (h : rX7_need_0 N S x0 x1 x2 = some (r, T)) : zWt D cy A p l e { frames := 2, cells := 0, slots := 0, locals := 43 } s m args below meth c z 0 0 0 0 (zQ D cy A T z (some (.int r))) S 3 0 [(0, .ref x0), (1, .int x1), (2, .int x2)] [] := by
  obtain ⟨hx, hb, hml, hown, hr, hlocks, hT⟩ := id X
  intro H locs ls hH hS hl
  unfold rX7_need_0 at h
  refine lv_aload_n hx hb dX7_need_0 rfl (lv_at hl 0 rfl) ?_
  refine lv_iload_n hx hb dX7_need_1 rfl (lv_at hl 1 rfl) ?_
  obtain ⟨u1, eu1, h⟩ := zb_some h
  obtain ⟨v3, S2, eS2, h⟩ := zb2_some h
  refine z_cV (As := [.int x1]) X hl hH hS mlX7_122 eu1 (kX7_isStep eS2) rfl rfl (Nat.le_of_ble_eq_true rfl) ⟨rfl, rfl, Nat.le_of_ble_eq_true rfl, Nat.le_of_ble_eq_true rfl⟩ ⟨Nat.le_refl _, Nat.le_refl _⟩ dX7_need_2 (fun H locs hH hS => ?_)
  refine lv_if_eq (tgt := 17) hx hb dX7_need_5 (by decide) (fun c => ?_) (fun c => ?_)
  · have h := (if_pos c).symm.trans h
    exact wX7_need_17 X h _ _ _ hH hS (lv_sub hl [] rfl)
  · have h := (if_neg c).symm.trans h
    refine lv_aload_n hx hb dX7_need_8 rfl (lv_at hl 0 rfl) ?_
    refine lv_iload_n hx hb dX7_need_9 rfl (lv_at hl 1 rfl) ?_
    refine lv_iload_n hx hb dX7_need_10 rfl (lv_at hl 2 rfl) ?_
    obtain ⟨u4, eu4, h⟩ := zb_some h
    obtain ⟨v6, S5, eS5, h⟩ := zb2_some h
    refine z_cV (As := [.int x1, .int x2]) X hl hH hS mlX7_125 eu4 (kX7_isInputFor eS5) rfl rfl (Nat.le_of_ble_eq_true rfl) ⟨rfl, rfl, Nat.le_of_ble_eq_true rfl, Nat.le_of_ble_eq_true rfl⟩ ⟨Nat.le_refl _, Nat.le_refl _⟩ dX7_need_11 (fun H locs hH hS => ?_)
    refine lv_if_ne (tgt := 19) hx hb dX7_need_14 (by decide) (fun c => ?_) (fun c => ?_)
    · have h := (if_neg c).symm.trans h
      refine lv_aload_n hx hb dX7_need_19 rfl (lv_at hl 0 rfl) ?_
      obtain ⟨v7, ev7, h⟩ := zb_some h
      refine z_getr X flX7_19 hH ev7 dX7_need_20 ?_
      obtain ⟨v8, ev8, h⟩ := zb_some h
      refine z_geti X flX7_128 hH ev8 dX7_need_23 ?_
      refine lv_iload_n hx hb dX7_need_26 rfl (lv_at hl 1 rfl) ?_
      refine lv_iushr hx hb dX7_need_27 (zush_eq _ _) ?_
      refine lv_iconst (v := (1 : Int32)) hx hb dX7_need_28 (by decide) ?_
      refine lv_iand hx hb dX7_need_29 ?_
      refine lv_if_eq (tgt := 36) hx hb dX7_need_30 (by decide) (fun c => ?_) (fun c => ?_)
      · have h := (if_pos c).symm.trans h
        refine lv_aload_n hx hb dX7_need_36 rfl (lv_at hl 0 rfl) ?_
        obtain ⟨v9, ev9, h⟩ := zb_some h
        refine z_getr X flX7_19 hH ev9 dX7_need_37 ?_
        obtain ⟨v10, ev10, h⟩ := zb_some h
        refine z_getr X flX7_131 hH ev10 dX7_need_40 ?_
        refine lv_iload_n hx hb dX7_need_43 rfl (lv_at hl 1 rfl) ?_
        obtain ⟨v11, ev11, h⟩ := zb_some h
        refine z_iald X hH ev11 dX7_need_44 ?_
        refine lv_iconst (v := (4 : Int32)) hx hb dX7_need_45 (by decide) ?_
        refine lv_icmp_lt (tgt := 52) hx hb dX7_need_46 (by decide) (fun c => ?_) (fun c => ?_)
        · have h := (if_pos c).symm.trans h
          refine lv_aload_n hx hb dX7_need_52 rfl (lv_at hl 0 rfl) ?_
          obtain ⟨v12, ev12, h⟩ := zb_some h
          refine z_getr X flX7_19 hH ev12 dX7_need_53 ?_
          refine lv_iload_n hx hb dX7_need_56 rfl (lv_at hl 1 rfl) ?_
          refine lv_iload_n hx hb dX7_need_57 rfl (lv_at hl 2 rfl) ?_
          obtain ⟨u13, eu13, h⟩ := zb_some h
          obtain ⟨v15, S14, eS14, h⟩ := zb2_some h
          refine z_cV (As := [.int x1, .int x2]) X hl hH hS mlX7_135 eu13 (kX4_addInput eS14) rfl rfl (Nat.le_of_ble_eq_true rfl) ⟨rfl, rfl, Nat.le_of_ble_eq_true rfl, Nat.le_of_ble_eq_true rfl⟩ ⟨Nat.le_refl _, Nat.le_refl _⟩ dX7_need_58 (fun H locs hH hS => ?_)
          exact z_iret X hH hS h dX7_need_61
        · have h := (if_neg c).symm.trans h
          refine lv_bipush (v := (-3 : Int32)) hx hb dX7_need_49 (by decide) ?_
          exact z_iret X hH hS h dX7_need_51
      · have h := (if_neg c).symm.trans h
        refine lv_bipush (v := (-2 : Int32)) hx hb dX7_need_33 (by decide) ?_
        exact z_iret X hH hS h dX7_need_35
    · have h := (if_pos c).symm.trans h
      exact wX7_need_17 X h _ _ _ hH hS (lv_sub hl [] rfl)
set_option maxRecDepth 100000 in
theorem kX7_need {N : Nat} {r : Int32} {T : zS} {S : zS} {z : Nat} {x0 : Nat} {x1 : Int32} {x2 : Int32} (h : rX7_need N S x0 x1 x2 = some (r, T)) : Met l yX7_need [.code yX7_need cX7_need 3 (some .int)] { frames := 2, cells := 0, slots := 0, locals := 43 } (zP D cy A S z [.ref x0, .int x1, .int x2]) (zQ D cy A T z (some (.int r))) 0 0 A := by
  refine z_met (lv := [(0, .ref x0), (1, .int x1), (2, .int x2)]) (by decide) (Nat.le_of_ble_eq_true rfl) rfl ?_
  intro p e s m below meth c X H locs ls hH hS hl
  exact wX7_need_0 X h _ _ _ hH hS (lv_sub hl [0, 1, 2] rfl)
set_option maxRecDepth 100000 in
set_option maxHeartbeats 4000000 in
theorem wX7_made_60 {N : Nat} {MC MS zT : Nat} {r : Int32} {T : zS} (X : zX D cy p s m meth c cX7_made 3 RX7 (some .int)) (hA : ∀ q : Nat, s.heap.size ≤ q → A q)  {S : zS} {z : Nat} {y0 : Int32} {q w : Nat} (hq : q + zT ≤ MC + z) (hw : w + 200 * zT ≤ MS + 200 * z) (h : rX7_made_60 N S z y0 = some (r, T, zT)) : zWt D cy A p l e ({ frames := 6, cells := MC, slots := MS, locals := 139 } : Room) s m args below meth c z q w MC MS (zQ D cy A T zT (some (.int r))) S 3 60 [] [.int y0] := by
  obtain ⟨hx, hb, hml, hown, hr, hlocks, hT⟩ := id X
  intro H locs ls hH hS hl
  unfold rX7_made_60 at h
  obtain ⟨h, hz⟩ := zgeI_some h
  exact z_iretZ X hH hS h hq hw dX7_made_60
set_option maxRecDepth 100000 in
set_option maxHeartbeats 4000000 in
theorem wX7_made_15 {N : Nat} {MC MS zT : Nat} {r : Int32} {T : zS} (X : zX D cy p s m meth c cX7_made 3 RX7 (some .int)) (hA : ∀ q : Nat, s.heap.size ≤ q → A q)  {S : zS} {z : Nat} {q w : Nat} (hq : q + zT ≤ MC + z) (hw : w + 200 * zT ≤ MS + 200 * z) (h : rX7_made_15 N S z = some (r, T, zT)) : zWt D cy A p l e ({ frames := 6, cells := MC, slots := MS, locals := 139 } : Room) s m args below meth c z q w MC MS (zQ D cy A T zT (some (.int r))) S 3 15 [] [] := by
  obtain ⟨hx, hb, hml, hown, hr, hlocks, hT⟩ := id X
  intro H locs ls hH hS hl
  unfold rX7_made_15 at h
  obtain ⟨h, hz⟩ := zgeI_some h
  refine lv_iconst (v := (-1 : Int32)) hx hb dX7_made_15 (by decide) ?_
  exact z_iretZ X hH hS h hq hw dX7_made_16
set_option maxRecDepth 100000 in
set_option maxHeartbeats 4000000 in
theorem wX7_made_0 {N : Nat} {MC MS zT : Nat} {r : Int32} {T : zS} (X : zX D cy p s m meth c cX7_made 3 RX7 (some .int)) (hA : ∀ q : Nat, s.heap.size ≤ q → A q)  {S : zS} {z : Nat} {x0 : Nat} {x1 : Int32} {x2 : Int32} {q w : Nat} (hq : q + zT ≤ MC + z) (hw : w + 200 * zT ≤ MS + 200 * z) (h : rX7_made_0 N S z x0 x1 x2 = some (r, T, zT)) : zWt D cy A p l e ({ frames := 6, cells := MC, slots := MS, locals := 139 } : Room) s m args below meth c z q w MC MS (zQ D cy A T zT (some (.int r))) S 3 0 [(0, .ref x0), (1, .int x1), (2, .int x2)] [] := by
  obtain ⟨hx, hb, hml, hown, hr, hlocks, hT⟩ := id X
  intro H locs ls hH hS hl
  unfold rX7_made_0 at h
  obtain ⟨h, hz⟩ := zgeI_some h
  refine lv_iload_n hx hb dX7_made_0 rfl (lv_at hl 1 rfl) ?_
  obtain ⟨v2, S1, eS1, h⟩ := zb2_some h
  refine z_cS (As := [.int x1]) X hl hH hS mlX7_93 (kX7_isRoom eS1) rfl rfl (Nat.le_of_ble_eq_true rfl) ⟨rfl, rfl, Nat.le_of_ble_eq_true rfl, Nat.le_of_ble_eq_true rfl⟩ (zz_0 hq hw hz) dX7_made_1 (fun H locs hH hS => ?_)
  refine lv_if_eq (tgt := 15) hx hb dX7_made_4 (by decide) (fun c => ?_) (fun c => ?_)
  · have h := (if_pos c).symm.trans h
    exact wX7_made_15 X hA hq hw h _ _ _ hH hS (lv_sub hl [] rfl)
  · have h := (if_neg c).symm.trans h
    refine lv_aload_n hx hb dX7_made_7 rfl (lv_at hl 0 rfl) ?_
    refine lv_iload_n hx hb dX7_made_8 rfl (lv_at hl 2 rfl) ?_
    obtain ⟨u3, eu3, h⟩ := zb_some h
    obtain ⟨v5, S4, eS4, h⟩ := zb2_some h
    refine z_cV (As := [.int x2]) X hl hH hS mlX7_122 eu3 (kX7_isStep eS4) rfl rfl (Nat.le_of_ble_eq_true rfl) ⟨rfl, rfl, Nat.le_of_ble_eq_true rfl, Nat.le_of_ble_eq_true rfl⟩ (zz_0 hq hw hz) dX7_made_9 (fun H locs hH hS => ?_)
    refine lv_if_ne (tgt := 17) hx hb dX7_made_12 (by decide) (fun c => ?_) (fun c => ?_)
    · have h := (if_neg c).symm.trans h
      refine lv_aload_n hx hb dX7_made_17 rfl (lv_at hl 0 rfl) ?_
      obtain ⟨v6, ev6, h⟩ := zb_some h
      refine z_getr X flX7_33 hH ev6 dX7_made_18 ?_
      refine lv_aload_n hx hb dX7_made_21 rfl (lv_at hl 0 rfl) ?_
      obtain ⟨v7, ev7, h⟩ := zb_some h
      refine z_getr X flX7_25 hH ev7 dX7_made_22 ?_
      refine lv_iload_n hx hb dX7_made_25 rfl (lv_at hl 1 rfl) ?_
      obtain ⟨v8, ev8, h⟩ := zb_some h
      refine z_aald X hH 13 (by decide) ev8 dX7_made_26 ?_
      refine lv_iload_n hx hb dX7_made_27 rfl (lv_at hl 2 rfl) ?_
      obtain ⟨u9, eu9, h⟩ := zb_some h
      obtain ⟨S10, z11, eS10, h⟩ := zb2_some h
      obtain ⟨h, hzz11⟩ := zgeI_some h
      have hmz11 := mX1_makeIn eS10
      refine z_cV (As := [.ref v8, .int x2]) X hl hH hS mlX7_138 eu9 (kX1_makeIn (fun q h => hA q (Nat.le_trans (Nat.le_trans hS.1.1 (Nat.le_of_eq hS.2)) h)) eS10) rfl rfl (Nat.le_of_ble_eq_true rfl) ⟨rfl, rfl, Nat.le_of_ble_eq_true rfl, Nat.le_of_ble_eq_true rfl⟩ (zz_f hq hw hmz11 hzz11) dX7_made_28 (fun H locs hH hS => ?_)
      obtain ⟨hq, hw⟩ := zz_q hq hw hmz11
      have hz := hzz11
      refine lv_aload_n hx hb dX7_made_31 rfl (lv_at hl 0 rfl) ?_
      obtain ⟨v12, ev12, h⟩ := zb_some h
      refine z_getr X flX7_33 hH ev12 dX7_made_32 ?_
      obtain ⟨v13, ev13, h⟩ := zb_some h
      refine z_getr X flX7_142 hH ev13 dX7_made_35 ?_
      refine lv_iload_n hx hb dX7_made_38 rfl (lv_at hl 2 rfl) ?_
      obtain ⟨v14, ev14, h⟩ := zb_some h
      refine z_zald X hH ev14 dX7_made_39 ?_
      refine lv_if_eq (tgt := 48) hx hb dX7_made_40 (by decide) (fun c => ?_) (fun c => ?_)
      · have h := (if_pos c).symm.trans h
        refine lv_aload_n hx hb dX7_made_48 rfl (lv_at hl 0 rfl) ?_
        obtain ⟨v15, ev15, h⟩ := zb_some h
        refine z_getr X flX7_33 hH ev15 dX7_made_49 ?_
        obtain ⟨v16, ev16, h⟩ := zb_some h
        refine z_getr X flX7_146 hH ev16 dX7_made_52 ?_
        refine lv_iload_n hx hb dX7_made_55 rfl (lv_at hl 2 rfl) ?_
        obtain ⟨v17, ev17, h⟩ := zb_some h
        refine z_aald X hH 12 (by decide) ev17 dX7_made_56 ?_
        obtain ⟨v18, ev18, h⟩ := zb_some h
        refine z_geti X flX7_65 hH ev18 dX7_made_57 ?_
        exact wX7_made_60 X hA hq hw h _ _ _ hH hS (lv_sub hl [] rfl)
      · have h := (if_neg c).symm.trans h
        refine lv_bipush (v := (-2 : Int32)) hx hb dX7_made_43 (by decide) ?_
        refine lv_goto (tgt := 60) hx hb dX7_made_45 (by decide) ?_
        exact wX7_made_60 X hA hq hw h _ _ _ hH hS (lv_sub hl [] rfl)
    · have h := (if_pos c).symm.trans h
      exact wX7_made_15 X hA hq hw h _ _ _ hH hS (lv_sub hl [] rfl)
theorem mX7_made {N : Nat} {zT : Nat} {r : Int32} {T : zS} {S : zS} {z : Nat} {x0 : Nat} {x1 : Int32} {x2 : Int32} (h : rX7_made N S z x0 x1 x2 = some (r, T, zT)) : z ≤ zT := by
  unfold rX7_made rX7_made_0 at h
  exact (zgeI_some h).2
set_option maxRecDepth 100000 in
theorem kX7_made {N : Nat} {zT : Nat} {r : Int32} {T : zS} {S : zS} {z : Nat} {x0 : Nat} {x1 : Int32} {x2 : Int32} (hA0 : ∀ q : Nat, z ≤ q → A q) (h : rX7_made N S z x0 x1 x2 = some (r, T, zT)) : Met l yX7_made [.code yX7_made cX7_made 3 (some .int)] ({ frames := 6, cells := zT - z, slots := 200 * (zT - z), locals := 139 } : Room) (zP D cy A S z [.ref x0, .int x1, .int x2]) (zQ D cy A T zT (some (.int r))) (zT - z) (200 * (zT - z)) A := by
  have hm := mX7_made h
  refine z_metA (lv := [(0, .ref x0), (1, .int x1), (2, .int x2)]) (by decide) (Nat.le_of_ble_eq_true rfl) rfl ?_
  intro p e s m below meth c X hz H locs ls hH hS hl
  exact wX7_made_0 X (fun q hq => hA0 q (by rw [← hz]; exact hq)) (zz_s hm).1 (zz_s hm).2 h _ _ _ hH hS (lv_sub hl [0, 1, 2] rfl)
set_option maxRecDepth 100000 in
set_option maxHeartbeats 4000000 in
theorem wX7_at_88 {N : Nat} {MC MS zT : Nat} {r : Int32} {T : zS} (X : zX D cy p s m meth c cX7_at 5 RX7 (some .int)) (hA : ∀ q : Nat, s.heap.size ≤ q → A q)  {S : zS} {z : Nat} {y0 : Int32} {q w : Nat} (hq : q + zT ≤ MC + z) (hw : w + 200 * zT ≤ MS + 200 * z) (h : rX7_at_88 N S z y0 = some (r, T, zT)) : zWt D cy A p l e ({ frames := 6, cells := MC, slots := MS, locals := 139 } : Room) s m args below meth c z q w MC MS (zQ D cy A T zT (some (.int r))) S 5 88 [] [.int y0] := by
  obtain ⟨hx, hb, hml, hown, hr, hlocks, hT⟩ := id X
  intro H locs ls hH hS hl
  unfold rX7_at_88 at h
  obtain ⟨h, hz⟩ := zgeI_some h
  exact z_iretZ X hH hS h hq hw dX7_at_88
set_option maxRecDepth 100000 in
set_option maxHeartbeats 4000000 in
theorem wX7_at_26 {N : Nat} {MC MS zT : Nat} {r : Int32} {T : zS} (X : zX D cy p s m meth c cX7_at 5 RX7 (some .int)) (hA : ∀ q : Nat, s.heap.size ≤ q → A q)  {S : zS} {z : Nat} {q w : Nat} (hq : q + zT ≤ MC + z) (hw : w + 200 * zT ≤ MS + 200 * z) (h : rX7_at_26 N S z = some (r, T, zT)) : zWt D cy A p l e ({ frames := 6, cells := MC, slots := MS, locals := 139 } : Room) s m args below meth c z q w MC MS (zQ D cy A T zT (some (.int r))) S 5 26 [] [] := by
  obtain ⟨hx, hb, hml, hown, hr, hlocks, hT⟩ := id X
  intro H locs ls hH hS hl
  unfold rX7_at_26 at h
  obtain ⟨h, hz⟩ := zgeI_some h
  refine lv_iconst (v := (-1 : Int32)) hx hb dX7_at_26 (by decide) ?_
  exact z_iretZ X hH hS h hq hw dX7_at_27
set_option maxRecDepth 100000 in
set_option maxHeartbeats 4000000 in
theorem wX7_at_0 {N : Nat} {MC MS zT : Nat} {r : Int32} {T : zS} (X : zX D cy p s m meth c cX7_at 5 RX7 (some .int)) (hA : ∀ q : Nat, s.heap.size ≤ q → A q)  {S : zS} {z : Nat} {x0 : Nat} {x1 : Int32} {x2 : Int32} {x3 : Int32} {q w : Nat} (hq : q + zT ≤ MC + z) (hw : w + 200 * zT ≤ MS + 200 * z) (h : rX7_at_0 N S z x0 x1 x2 x3 = some (r, T, zT)) : zWt D cy A p l e ({ frames := 6, cells := MC, slots := MS, locals := 139 } : Room) s m args below meth c z q w MC MS (zQ D cy A T zT (some (.int r))) S 5 0 [(0, .ref x0), (1, .int x1), (2, .int x2), (3, .int x3)] [] := by
  obtain ⟨hx, hb, hml, hown, hr, hlocks, hT⟩ := id X
  intro H locs ls hH hS hl
  unfold rX7_at_0 at h
  obtain ⟨h, hz⟩ := zgeI_some h
  refine lv_iload_n hx hb dX7_at_0 rfl (lv_at hl 1 rfl) ?_
  obtain ⟨v2, S1, eS1, h⟩ := zb2_some h
  refine z_cS (As := [.int x1]) X hl hH hS mlX7_93 (kX7_isRoom eS1) rfl rfl (Nat.le_of_ble_eq_true rfl) ⟨rfl, rfl, Nat.le_of_ble_eq_true rfl, Nat.le_of_ble_eq_true rfl⟩ (zz_0 hq hw hz) dX7_at_1 (fun H locs hH hS => ?_)
  refine lv_if_eq (tgt := 26) hx hb dX7_at_4 (by decide) (fun c => ?_) (fun c => ?_)
  · have h := (if_pos c).symm.trans h
    exact wX7_at_26 X hA hq hw h _ _ _ hH hS (lv_sub hl [] rfl)
  · have h := (if_neg c).symm.trans h
    refine lv_aload_n hx hb dX7_at_7 rfl (lv_at hl 0 rfl) ?_
    refine lv_iload_n hx hb dX7_at_8 rfl (lv_at hl 2 rfl) ?_
    obtain ⟨u3, eu3, h⟩ := zb_some h
    obtain ⟨v5, S4, eS4, h⟩ := zb2_some h
    refine z_cV (As := [.int x2]) X hl hH hS mlX7_122 eu3 (kX7_isStep eS4) rfl rfl (Nat.le_of_ble_eq_true rfl) ⟨rfl, rfl, Nat.le_of_ble_eq_true rfl, Nat.le_of_ble_eq_true rfl⟩ (zz_0 hq hw hz) dX7_at_9 (fun H locs hH hS => ?_)
    refine lv_if_eq (tgt := 26) hx hb dX7_at_12 (by decide) (fun c => ?_) (fun c => ?_)
    · have h := (if_pos c).symm.trans h
      exact wX7_at_26 X hA hq hw h _ _ _ hH hS (lv_sub hl [] rfl)
    · have h := (if_neg c).symm.trans h
      refine lv_iload_n hx hb dX7_at_15 rfl (lv_at hl 3 rfl) ?_
      refine lv_if_lt (tgt := 26) hx hb dX7_at_16 (by decide) (fun c => ?_) (fun c => ?_)
      · have h := (if_pos c).symm.trans h
        exact wX7_at_26 X hA hq hw h _ _ _ hH hS (lv_sub hl [] rfl)
      · have h := (if_neg c).symm.trans h
        refine lv_iload_n hx hb dX7_at_19 rfl (lv_at hl 3 rfl) ?_
        refine lv_sipush (v := (200 : Int32)) hx hb dX7_at_20 (by decide) ?_
        refine lv_icmp_lt (tgt := 28) hx hb dX7_at_23 (by decide) (fun c => ?_) (fun c => ?_)
        · have h := (if_pos c).symm.trans h
          refine lv_aload_n hx hb dX7_at_28 rfl (lv_at hl 0 rfl) ?_
          obtain ⟨v6, ev6, h⟩ := zb_some h
          refine z_getr X flX7_33 hH ev6 dX7_at_29 ?_
          refine lv_aload_n hx hb dX7_at_32 rfl (lv_at hl 0 rfl) ?_
          obtain ⟨v7, ev7, h⟩ := zb_some h
          refine z_getr X flX7_25 hH ev7 dX7_at_33 ?_
          refine lv_iload_n hx hb dX7_at_36 rfl (lv_at hl 1 rfl) ?_
          obtain ⟨v8, ev8, h⟩ := zb_some h
          refine z_aald X hH 13 (by decide) ev8 dX7_at_37 ?_
          refine lv_iload_n hx hb dX7_at_38 rfl (lv_at hl 2 rfl) ?_
          obtain ⟨u9, eu9, h⟩ := zb_some h
          obtain ⟨S10, z11, eS10, h⟩ := zb2_some h
          obtain ⟨h, hzz11⟩ := zgeI_some h
          have hmz11 := mX1_makeIn eS10
          refine z_cV (As := [.ref v8, .int x2]) X hl hH hS mlX7_138 eu9 (kX1_makeIn (fun q h => hA q (Nat.le_trans (Nat.le_trans hS.1.1 (Nat.le_of_eq hS.2)) h)) eS10) rfl rfl (Nat.le_of_ble_eq_true rfl) ⟨rfl, rfl, Nat.le_of_ble_eq_true rfl, Nat.le_of_ble_eq_true rfl⟩ (zz_f hq hw hmz11 hzz11) dX7_at_39 (fun H locs hH hS => ?_)
          obtain ⟨hq, hw⟩ := zz_q hq hw hmz11
          have hz := hzz11
          refine lv_aload_n hx hb dX7_at_42 rfl (lv_at hl 0 rfl) ?_
          obtain ⟨v12, ev12, h⟩ := zb_some h
          refine z_getr X flX7_33 hH ev12 dX7_at_43 ?_
          obtain ⟨v13, ev13, h⟩ := zb_some h
          refine z_getr X flX7_142 hH ev13 dX7_at_46 ?_
          refine lv_iload_n hx hb dX7_at_49 rfl (lv_at hl 2 rfl) ?_
          obtain ⟨v14, ev14, h⟩ := zb_some h
          refine z_zald X hH ev14 dX7_at_50 ?_
          refine lv_if_eq (tgt := 57) hx hb dX7_at_51 (by decide) (fun c => ?_) (fun c => ?_)
          · have h := (if_pos c).symm.trans h
            refine lv_aload_n hx hb dX7_at_57 rfl (lv_at hl 0 rfl) ?_
            obtain ⟨v15, ev15, h⟩ := zb_some h
            refine z_getr X flX7_33 hH ev15 dX7_at_58 ?_
            obtain ⟨v16, ev16, h⟩ := zb_some h
            refine z_getr X flX7_146 hH ev16 dX7_at_61 ?_
            refine lv_iload_n hx hb dX7_at_64 rfl (lv_at hl 2 rfl) ?_
            obtain ⟨v17, ev17, h⟩ := zb_some h
            refine z_aald X hH 12 (by decide) ev17 dX7_at_65 ?_
            refine lv_astore (lv' := [(4, .ref v17), (0, .ref x0), (1, .int x1), (2, .int x2), (3, .int x3)]) hx hb dX7_at_66 hl (by decide) rfl (fun ls hl => ?_)
            refine lv_iload_n hx hb dX7_at_68 rfl (lv_at hl 4 rfl) ?_
            refine lv_aload hx hb dX7_at_69 (lv_at hl 0 rfl) ?_
            obtain ⟨v18, ev18, h⟩ := zb_some h
            refine z_geti X flX7_65 hH ev18 dX7_at_71 ?_
            refine lv_icmp_ge (tgt := 87) hx hb dX7_at_74 (by decide) (fun c => ?_) (fun c => ?_)
            · have h := (if_pos c).symm.trans h
              refine lv_iconst (v := (-1 : Int32)) hx hb dX7_at_87 (by decide) ?_
              exact wX7_at_88 X hA hq hw h _ _ _ hH hS (lv_sub hl [] rfl)
            · have h := (if_neg c).symm.trans h
              refine lv_aload hx hb dX7_at_77 (lv_at hl 0 rfl) ?_
              obtain ⟨v19, ev19, h⟩ := zb_some h
              refine z_getr X flX7_150 hH ev19 dX7_at_79 ?_
              refine lv_iload_n hx hb dX7_at_82 rfl (lv_at hl 4 rfl) ?_
              obtain ⟨v20, ev20, h⟩ := zb_some h
              refine z_iald X hH ev20 dX7_at_83 ?_
              refine lv_goto (tgt := 88) hx hb dX7_at_84 (by decide) ?_
              exact wX7_at_88 X hA hq hw h _ _ _ hH hS (lv_sub hl [] rfl)
          · have h := (if_neg c).symm.trans h
            refine lv_bipush (v := (-2 : Int32)) hx hb dX7_at_54 (by decide) ?_
            exact z_iretZ X hH hS h hq hw dX7_at_56
        · have h := (if_neg c).symm.trans h
          exact wX7_at_26 X hA hq hw h _ _ _ hH hS (lv_sub hl [] rfl)
theorem mX7_at {N : Nat} {zT : Nat} {r : Int32} {T : zS} {S : zS} {z : Nat} {x0 : Nat} {x1 : Int32} {x2 : Int32} {x3 : Int32} (h : rX7_at N S z x0 x1 x2 x3 = some (r, T, zT)) : z ≤ zT := by
  unfold rX7_at rX7_at_0 at h
  exact (zgeI_some h).2
set_option maxRecDepth 100000 in
theorem kX7_at {N : Nat} {zT : Nat} {r : Int32} {T : zS} {S : zS} {z : Nat} {x0 : Nat} {x1 : Int32} {x2 : Int32} {x3 : Int32} (hA0 : ∀ q : Nat, z ≤ q → A q) (h : rX7_at N S z x0 x1 x2 x3 = some (r, T, zT)) : Met l yX7_at [.code yX7_at cX7_at 5 (some .int)] ({ frames := 6, cells := zT - z, slots := 200 * (zT - z), locals := 139 } : Room) (zP D cy A S z [.ref x0, .int x1, .int x2, .int x3]) (zQ D cy A T zT (some (.int r))) (zT - z) (200 * (zT - z)) A := by
  have hm := mX7_at h
  refine z_metA (lv := [(0, .ref x0), (1, .int x1), (2, .int x2), (3, .int x3)]) (by decide) (Nat.le_of_ble_eq_true rfl) rfl ?_
  intro p e s m below meth c X hz H locs ls hH hS hl
  exact wX7_at_0 X (fun q hq => hA0 q (by rw [← hz]; exact hq)) (zz_s hm).1 (zz_s hm).2 h _ _ _ hH hS (lv_sub hl [0, 1, 2, 3] rfl)
set_option maxRecDepth 100000 in
set_option maxHeartbeats 4000000 in
theorem wX7_reads_61 {N : Nat} {MC MS zT : Nat} {r : Int32} {T : zS} (X : zX D cy p s m meth c cX7_reads 4 RX7 (some .int)) (hA : ∀ q : Nat, s.heap.size ≤ q → A q)  {S : zS} {z : Nat} {y0 : Nat} {y1 : Int32} {q w : Nat} (hq : q + zT ≤ MC + z) (hw : w + 200 * zT ≤ MS + 200 * z) (h : rX7_reads_61 N S z y0 y1 = some (r, T, zT)) : zWt D cy A p l e ({ frames := 6, cells := MC, slots := MS, locals := 139 } : Room) s m args below meth c z q w MC MS (zQ D cy A T zT (some (.int r))) S 4 61 [] [.int y1, .ref y0] := by
  obtain ⟨hx, hb, hml, hown, hr, hlocks, hT⟩ := id X
  intro H locs ls hH hS hl
  unfold rX7_reads_61 at h
  obtain ⟨h, hz⟩ := zgeI_some h
  obtain ⟨u1, eu1, h⟩ := zb_some h
  obtain ⟨v3, S2, eS2, h⟩ := zb2_some h
  refine z_cV (As := [.int y1]) X hl hH hS mlX7_156 eu1 (kX1_wordsRead eS2) rfl rfl (Nat.le_of_ble_eq_true rfl) ⟨rfl, rfl, Nat.le_of_ble_eq_true rfl, Nat.le_of_ble_eq_true rfl⟩ (zz_0 hq hw hz) dX7_reads_61 (fun H locs hH hS => ?_)
  exact z_iretZ X hH hS h hq hw dX7_reads_64
set_option maxRecDepth 100000 in
set_option maxHeartbeats 4000000 in
theorem wX7_reads_22 {N : Nat} {MC MS zT : Nat} {r : Int32} {T : zS} (X : zX D cy p s m meth c cX7_reads 4 RX7 (some .int)) (hA : ∀ q : Nat, s.heap.size ≤ q → A q)  {S : zS} {z : Nat} {q w : Nat} (hq : q + zT ≤ MC + z) (hw : w + 200 * zT ≤ MS + 200 * z) (h : rX7_reads_22 N S z = some (r, T, zT)) : zWt D cy A p l e ({ frames := 6, cells := MC, slots := MS, locals := 139 } : Room) s m args below meth c z q w MC MS (zQ D cy A T zT (some (.int r))) S 4 22 [] [] := by
  obtain ⟨hx, hb, hml, hown, hr, hlocks, hT⟩ := id X
  intro H locs ls hH hS hl
  unfold rX7_reads_22 at h
  obtain ⟨h, hz⟩ := zgeI_some h
  refine lv_iconst (v := (-1 : Int32)) hx hb dX7_reads_22 (by decide) ?_
  exact z_iretZ X hH hS h hq hw dX7_reads_23
set_option maxRecDepth 100000 in
set_option maxHeartbeats 4000000 in
theorem wX7_reads_0 {N : Nat} {MC MS zT : Nat} {r : Int32} {T : zS} (X : zX D cy p s m meth c cX7_reads 4 RX7 (some .int)) (hA : ∀ q : Nat, s.heap.size ≤ q → A q)  {S : zS} {z : Nat} {x0 : Nat} {x1 : Int32} {x2 : Int32} {x3 : Int32} {q w : Nat} (hq : q + zT ≤ MC + z) (hw : w + 200 * zT ≤ MS + 200 * z) (h : rX7_reads_0 N S z x0 x1 x2 x3 = some (r, T, zT)) : zWt D cy A p l e ({ frames := 6, cells := MC, slots := MS, locals := 139 } : Room) s m args below meth c z q w MC MS (zQ D cy A T zT (some (.int r))) S 4 0 [(0, .ref x0), (1, .int x1), (2, .int x2), (3, .int x3)] [] := by
  obtain ⟨hx, hb, hml, hown, hr, hlocks, hT⟩ := id X
  intro H locs ls hH hS hl
  unfold rX7_reads_0 at h
  obtain ⟨h, hz⟩ := zgeI_some h
  refine lv_iload_n hx hb dX7_reads_0 rfl (lv_at hl 1 rfl) ?_
  obtain ⟨v5, S4, eS4, h⟩ := zb2_some h
  refine z_cS (As := [.int x1]) X hl hH hS mlX7_93 (kX7_isRoom eS4) rfl rfl (Nat.le_of_ble_eq_true rfl) ⟨rfl, rfl, Nat.le_of_ble_eq_true rfl, Nat.le_of_ble_eq_true rfl⟩ (zz_0 hq hw hz) dX7_reads_1 (fun H locs hH hS => ?_)
  refine lv_if_eq (tgt := 22) hx hb dX7_reads_4 (by decide) (fun c => ?_) (fun c => ?_)
  · have h := (if_pos c).symm.trans h
    exact wX7_reads_22 X hA hq hw h _ _ _ hH hS (lv_sub hl [] rfl)
  · have h := (if_neg c).symm.trans h
    refine lv_aload_n hx hb dX7_reads_7 rfl (lv_at hl 0 rfl) ?_
    refine lv_iload_n hx hb dX7_reads_8 rfl (lv_at hl 2 rfl) ?_
    obtain ⟨u6, eu6, h⟩ := zb_some h
    obtain ⟨v8, S7, eS7, h⟩ := zb2_some h
    refine z_cV (As := [.int x2]) X hl hH hS mlX7_122 eu6 (kX7_isStep eS7) rfl rfl (Nat.le_of_ble_eq_true rfl) ⟨rfl, rfl, Nat.le_of_ble_eq_true rfl, Nat.le_of_ble_eq_true rfl⟩ (zz_0 hq hw hz) dX7_reads_9 (fun H locs hH hS => ?_)
    refine lv_if_eq (tgt := 22) hx hb dX7_reads_12 (by decide) (fun c => ?_) (fun c => ?_)
    · have h := (if_pos c).symm.trans h
      exact wX7_reads_22 X hA hq hw h _ _ _ hH hS (lv_sub hl [] rfl)
    · have h := (if_neg c).symm.trans h
      refine lv_iload_n hx hb dX7_reads_15 rfl (lv_at hl 3 rfl) ?_
      obtain ⟨v10, S9, eS9, h⟩ := zb2_some h
      refine z_cS (As := [.int x3]) X hl hH hS mlX7_83 (kX7_isBit eS9) rfl rfl (Nat.le_of_ble_eq_true rfl) ⟨rfl, rfl, Nat.le_of_ble_eq_true rfl, Nat.le_of_ble_eq_true rfl⟩ (zz_0 hq hw hz) dX7_reads_16 (fun H locs hH hS => ?_)
      refine lv_if_ne (tgt := 24) hx hb dX7_reads_19 (by decide) (fun c => ?_) (fun c => ?_)
      · have h := (if_neg c).symm.trans h
        refine lv_aload_n hx hb dX7_reads_24 rfl (lv_at hl 0 rfl) ?_
        obtain ⟨v11, ev11, h⟩ := zb_some h
        refine z_getr X flX7_33 hH ev11 dX7_reads_25 ?_
        refine lv_aload_n hx hb dX7_reads_28 rfl (lv_at hl 0 rfl) ?_
        obtain ⟨v12, ev12, h⟩ := zb_some h
        refine z_getr X flX7_25 hH ev12 dX7_reads_29 ?_
        refine lv_iload_n hx hb dX7_reads_32 rfl (lv_at hl 1 rfl) ?_
        obtain ⟨v13, ev13, h⟩ := zb_some h
        refine z_aald X hH 13 (by decide) ev13 dX7_reads_33 ?_
        refine lv_iload_n hx hb dX7_reads_34 rfl (lv_at hl 2 rfl) ?_
        obtain ⟨u14, eu14, h⟩ := zb_some h
        obtain ⟨S15, z16, eS15, h⟩ := zb2_some h
        obtain ⟨h, hzz16⟩ := zgeI_some h
        have hmz16 := mX1_makeIn eS15
        refine z_cV (As := [.ref v13, .int x2]) X hl hH hS mlX7_138 eu14 (kX1_makeIn (fun q h => hA q (Nat.le_trans (Nat.le_trans hS.1.1 (Nat.le_of_eq hS.2)) h)) eS15) rfl rfl (Nat.le_of_ble_eq_true rfl) ⟨rfl, rfl, Nat.le_of_ble_eq_true rfl, Nat.le_of_ble_eq_true rfl⟩ (zz_f hq hw hmz16 hzz16) dX7_reads_35 (fun H locs hH hS => ?_)
        obtain ⟨hq, hw⟩ := zz_q hq hw hmz16
        have hz := hzz16
        refine lv_aload_n hx hb dX7_reads_38 rfl (lv_at hl 0 rfl) ?_
        obtain ⟨v17, ev17, h⟩ := zb_some h
        refine z_getr X flX7_33 hH ev17 dX7_reads_39 ?_
        refine lv_iload_n hx hb dX7_reads_42 rfl (lv_at hl 3 rfl) ?_
        refine lv_if_ne (tgt := 52) hx hb dX7_reads_43 (by decide) (fun c => ?_) (fun c => ?_)
        · have h := (if_neg c).symm.trans h
          refine lv_aload_n hx hb dX7_reads_52 rfl (lv_at hl 0 rfl) ?_
          obtain ⟨v18, ev18, h⟩ := zb_some h
          refine z_getr X flX7_19 hH ev18 dX7_reads_53 ?_
          obtain ⟨v19, ev19, h⟩ := zb_some h
          refine z_getr X flX7_153 hH ev19 dX7_reads_56 ?_
          refine lv_iload_n hx hb dX7_reads_59 rfl (lv_at hl 2 rfl) ?_
          obtain ⟨v20, ev20, h⟩ := zb_some h
          refine z_iald X hH ev20 dX7_reads_60 ?_
          exact wX7_reads_61 X hA hq hw h _ _ _ hH hS (lv_sub hl [] rfl)
        · have h := (if_pos c).symm.trans h
          refine lv_iconst (v := (1 : Int32)) hx hb dX7_reads_46 (by decide) ?_
          refine lv_iload_n hx hb dX7_reads_47 rfl (lv_at hl 2 rfl) ?_
          refine lv_ishl hx hb dX7_reads_48 ?_
          refine lv_goto (tgt := 61) hx hb dX7_reads_49 (by decide) ?_
          exact wX7_reads_61 X hA hq hw h _ _ _ hH hS (lv_sub hl [] rfl)
      · have h := (if_pos c).symm.trans h
        exact wX7_reads_22 X hA hq hw h _ _ _ hH hS (lv_sub hl [] rfl)
theorem mX7_reads {N : Nat} {zT : Nat} {r : Int32} {T : zS} {S : zS} {z : Nat} {x0 : Nat} {x1 : Int32} {x2 : Int32} {x3 : Int32} (h : rX7_reads N S z x0 x1 x2 x3 = some (r, T, zT)) : z ≤ zT := by
  unfold rX7_reads rX7_reads_0 at h
  exact (zgeI_some h).2
set_option maxRecDepth 100000 in
theorem kX7_reads {N : Nat} {zT : Nat} {r : Int32} {T : zS} {S : zS} {z : Nat} {x0 : Nat} {x1 : Int32} {x2 : Int32} {x3 : Int32} (hA0 : ∀ q : Nat, z ≤ q → A q) (h : rX7_reads N S z x0 x1 x2 x3 = some (r, T, zT)) : Met l yX7_reads [.code yX7_reads cX7_reads 4 (some .int)] ({ frames := 6, cells := zT - z, slots := 200 * (zT - z), locals := 139 } : Room) (zP D cy A S z [.ref x0, .int x1, .int x2, .int x3]) (zQ D cy A T zT (some (.int r))) (zT - z) (200 * (zT - z)) A := by
  have hm := mX7_reads h
  refine z_metA (lv := [(0, .ref x0), (1, .int x1), (2, .int x2), (3, .int x3)]) (by decide) (Nat.le_of_ble_eq_true rfl) rfl ?_
  intro p e s m below meth c X hz H locs ls hH hS hl
  exact wX7_reads_0 X (fun q hq => hA0 q (by rw [← hz]; exact hq)) (zz_s hm).1 (zz_s hm).2 h _ _ _ hH hS (lv_sub hl [0, 1, 2, 3] rfl)
set_option maxRecDepth 100000 in
set_option maxHeartbeats 4000000 in
theorem wX7_uses_42 {z : Nat} {N : Nat} {r : Int32} {T : zS} (X : zX D cy p s m meth c cX7_uses 3 RX7 (some .int))  {S : zS} {y0 : Int32} (h : rX7_uses_42 N S y0 = some (r, T)) : zWt D cy A p l e { frames := 1, cells := 0, slots := 0, locals := 21 } s m args below meth c z 0 0 0 0 (zQ D cy A T z (some (.int r))) S 3 42 [] [.int y0] := by
  obtain ⟨hx, hb, hml, hown, hr, hlocks, hT⟩ := id X
  intro H locs ls hH hS hl
  unfold rX7_uses_42 at h
  exact z_iret X hH hS h dX7_uses_42
set_option maxRecDepth 100000 in
set_option maxHeartbeats 4000000 in
theorem wX7_uses_15 {z : Nat} {N : Nat} {r : Int32} {T : zS} (X : zX D cy p s m meth c cX7_uses 3 RX7 (some .int))  {S : zS} (h : rX7_uses_15 N S = some (r, T)) : zWt D cy A p l e { frames := 1, cells := 0, slots := 0, locals := 21 } s m args below meth c z 0 0 0 0 (zQ D cy A T z (some (.int r))) S 3 15 [] [] := by
  obtain ⟨hx, hb, hml, hown, hr, hlocks, hT⟩ := id X
  intro H locs ls hH hS hl
  unfold rX7_uses_15 at h
  refine lv_iconst (v := (-1 : Int32)) hx hb dX7_uses_15 (by decide) ?_
  exact z_iret X hH hS h dX7_uses_16
set_option maxRecDepth 100000 in
set_option maxHeartbeats 4000000 in
theorem wX7_uses_0 {z : Nat} {N : Nat} {r : Int32} {T : zS} (X : zX D cy p s m meth c cX7_uses 3 RX7 (some .int))  {S : zS} {x0 : Nat} {x1 : Int32} {x2 : Int32} (h : rX7_uses_0 N S x0 x1 x2 = some (r, T)) : zWt D cy A p l e { frames := 1, cells := 0, slots := 0, locals := 21 } s m args below meth c z 0 0 0 0 (zQ D cy A T z (some (.int r))) S 3 0 [(0, .ref x0), (1, .int x1), (2, .int x2)] [] := by
  obtain ⟨hx, hb, hml, hown, hr, hlocks, hT⟩ := id X
  intro H locs ls hH hS hl
  unfold rX7_uses_0 at h
  refine lv_aload_n hx hb dX7_uses_0 rfl (lv_at hl 0 rfl) ?_
  refine lv_iload_n hx hb dX7_uses_1 rfl (lv_at hl 1 rfl) ?_
  obtain ⟨u1, eu1, h⟩ := zb_some h
  obtain ⟨v3, S2, eS2, h⟩ := zb2_some h
  refine z_cV (As := [.int x1]) X hl hH hS mlX7_122 eu1 (kX7_isStep eS2) rfl rfl (Nat.le_of_ble_eq_true rfl) ⟨rfl, rfl, Nat.le_of_ble_eq_true rfl, Nat.le_of_ble_eq_true rfl⟩ ⟨Nat.le_refl _, Nat.le_refl _⟩ dX7_uses_2 (fun H locs hH hS => ?_)
  refine lv_if_eq (tgt := 15) hx hb dX7_uses_5 (by decide) (fun c => ?_) (fun c => ?_)
  · have h := (if_pos c).symm.trans h
    exact wX7_uses_15 X h _ _ _ hH hS (lv_sub hl [] rfl)
  · have h := (if_neg c).symm.trans h
    refine lv_iload_n hx hb dX7_uses_8 rfl (lv_at hl 2 rfl) ?_
    obtain ⟨v5, S4, eS4, h⟩ := zb2_some h
    refine z_cS (As := [.int x2]) X hl hH hS mlX7_83 (kX7_isBit eS4) rfl rfl (Nat.le_of_ble_eq_true rfl) ⟨rfl, rfl, Nat.le_of_ble_eq_true rfl, Nat.le_of_ble_eq_true rfl⟩ ⟨Nat.le_refl _, Nat.le_refl _⟩ dX7_uses_9 (fun H locs hH hS => ?_)
    refine lv_if_ne (tgt := 17) hx hb dX7_uses_12 (by decide) (fun c => ?_) (fun c => ?_)
    · have h := (if_neg c).symm.trans h
      refine lv_iload_n hx hb dX7_uses_17 rfl (lv_at hl 2 rfl) ?_
      refine lv_if_ne (tgt := 33) hx hb dX7_uses_18 (by decide) (fun c => ?_) (fun c => ?_)
      · have h := (if_neg c).symm.trans h
        refine lv_aload_n hx hb dX7_uses_33 rfl (lv_at hl 0 rfl) ?_
        obtain ⟨v6, ev6, h⟩ := zb_some h
        refine z_getr X flX7_19 hH ev6 dX7_uses_34 ?_
        obtain ⟨v7, ev7, h⟩ := zb_some h
        refine z_getr X flX7_159 hH ev7 dX7_uses_37 ?_
        refine lv_iload_n hx hb dX7_uses_40 rfl (lv_at hl 1 rfl) ?_
        obtain ⟨v8, ev8, h⟩ := zb_some h
        refine z_iald X hH ev8 dX7_uses_41 ?_
        exact wX7_uses_42 X h _ _ _ hH hS (lv_sub hl [] rfl)
      · have h := (if_pos c).symm.trans h
        refine lv_aload_n hx hb dX7_uses_21 rfl (lv_at hl 0 rfl) ?_
        obtain ⟨v9, ev9, h⟩ := zb_some h
        refine z_getr X flX7_19 hH ev9 dX7_uses_22 ?_
        obtain ⟨v10, ev10, h⟩ := zb_some h
        refine z_getr X flX7_153 hH ev10 dX7_uses_25 ?_
        refine lv_iload_n hx hb dX7_uses_28 rfl (lv_at hl 1 rfl) ?_
        obtain ⟨v11, ev11, h⟩ := zb_some h
        refine z_iald X hH ev11 dX7_uses_29 ?_
        refine lv_goto (tgt := 42) hx hb dX7_uses_30 (by decide) ?_
        exact wX7_uses_42 X h _ _ _ hH hS (lv_sub hl [] rfl)
    · have h := (if_pos c).symm.trans h
      exact wX7_uses_15 X h _ _ _ hH hS (lv_sub hl [] rfl)
set_option maxRecDepth 100000 in
theorem kX7_uses {N : Nat} {r : Int32} {T : zS} {S : zS} {z : Nat} {x0 : Nat} {x1 : Int32} {x2 : Int32} (h : rX7_uses N S x0 x1 x2 = some (r, T)) : Met l yX7_uses [.code yX7_uses cX7_uses 3 (some .int)] { frames := 1, cells := 0, slots := 0, locals := 21 } (zP D cy A S z [.ref x0, .int x1, .int x2]) (zQ D cy A T z (some (.int r))) 0 0 A := by
  refine z_met (lv := [(0, .ref x0), (1, .int x1), (2, .int x2)]) (by decide) (Nat.le_of_ble_eq_true rfl) rfl ?_
  intro p e s m below meth c X H locs ls hH hS hl
  exact wX7_uses_0 X h _ _ _ hH hS (lv_sub hl [0, 1, 2] rfl)
end
