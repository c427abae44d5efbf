section
variable {D : va_G} {cy : Nat → ClassId} {A : Nat → Prop} {p : Program} {l : Launch} {e : Env} {s : State} {m : MethodId} {args : Array Value} {below : List Frame} {meth : Method} {c : Code}
set_option maxRecDepth 100000 in
set_option maxHeartbeats 4000000 in
theorem wX5_makeSpaceFor_41 {N : Nat} {MC MS zT : Nat} {r : Int32} {T : zS} (X : zX D cy p s m meth c cX5_makeSpaceFor 2 RX5 (some .boolean)) (hA : ∀ q : Nat, s.heap.size ≤ q → A q)  {S : zS} {z : Nat} {q w : Nat} (hq : q + zT ≤ MC + z) (hw : w + 200 * zT ≤ MS + 200 * z) (h : rX5_makeSpaceFor_41 N S z = some (r, T, zT)) : zWt D cy A p l e ({ frames := 0, cells := MC, slots := MS, locals := 0 } : Room) s m args below meth c z q w MC MS (zQ D cy A T zT (some (.int r))) S 2 41 [] [] := by
  obtain ⟨hx, hb, hml, hown, hr, hlocks, hT⟩ := id X
  intro H locs ls hH hS hl
  unfold rX5_makeSpaceFor_41 at h
  obtain ⟨h, hz⟩ := zgeI_some h
  refine lv_iconst (v := (1 : Int32)) hx hb dX5_makeSpaceFor_41 (by decide) ?_
  exact z_zretZ X hH hS h hq hw dX5_makeSpaceFor_42
set_option maxRecDepth 100000 in
set_option maxHeartbeats 4000000 in
theorem wX5_makeSpaceFor_0 {N : Nat} {MC MS zT : Nat} {r : Int32} {T : zS} (X : zX D cy p s m meth c cX5_makeSpaceFor 2 RX5 (some .boolean)) (hA : ∀ q : Nat, s.heap.size ≤ q → A q)  {S : zS} {z : Nat} {x0 : Nat} {x1 : Int32} {q w : Nat} (hq : q + zT ≤ MC + z) (hw : w + 200 * zT ≤ MS + 200 * z) (h : rX5_makeSpaceFor_0 N S z x0 x1 = some (r, T, zT)) : zWt D cy A p l e ({ frames := 0, cells := MC, slots := MS, locals := 0 } : Room) s m args below meth c z q w MC MS (zQ D cy A T zT (some (.int r))) S 2 0 [(0, .ref x0), (1, .int x1)] [] := by
  obtain ⟨hx, hb, hml, hown, hr, hlocks, hT⟩ := id X
  intro H locs ls hH hS hl
  unfold rX5_makeSpaceFor_0 at h
  obtain ⟨h, hz⟩ := zgeI_some h
  refine lv_aload_n hx hb dX5_makeSpaceFor_0 rfl (lv_at hl 0 rfl) ?_
  obtain ⟨v1, ev1, h⟩ := zb_some h
  refine z_geti X flX5_27 hH ev1 dX5_makeSpaceFor_1 ?_
  refine lv_iload_n hx hb dX5_makeSpaceFor_4 rfl (lv_at hl 1 rfl) ?_
  refine lv_iadd hx hb dX5_makeSpaceFor_5 ?_
  refine lv_aload_n hx hb dX5_makeSpaceFor_6 rfl (lv_at hl 0 rfl) ?_
  obtain ⟨v2, ev2, h⟩ := zb_some h
  refine z_geti X flX5_19 hH ev2 dX5_makeSpaceFor_7 ?_
  refine lv_icmp_le (tgt := 15) hx hb dX5_makeSpaceFor_10 (by decide) (fun c => ?_) (fun c => ?_)
  · have h := (if_pos c).symm.trans h
    refine lv_iload_n hx hb dX5_makeSpaceFor_15 rfl (lv_at hl 1 rfl) ?_
    refine lv_if_le (tgt := 41) hx hb dX5_makeSpaceFor_16 (by decide) (fun c => ?_) (fun c => ?_)
    · have h := (if_pos c).symm.trans h
      exact wX5_makeSpaceFor_41 X hA hq hw h _ _ _ hH hS (lv_sub hl [] rfl)
    · have h := (if_neg c).symm.trans h
      refine lv_aload_n hx hb dX5_makeSpaceFor_19 rfl (lv_at hl 0 rfl) ?_
      obtain ⟨v3, ev3, h⟩ := zb_some h
      refine z_getr X flX5_7 hH ev3 dX5_makeSpaceFor_20 ?_
      obtain ⟨v4, ev4, h⟩ := zb_some h
      refine z_alen X hH 9 (by decide) ev4 dX5_makeSpaceFor_23 ?_
      refine lv_aload_n hx hb dX5_makeSpaceFor_24 rfl (lv_at hl 0 rfl) ?_
      obtain ⟨v5, ev5, h⟩ := zb_some h
      refine z_geti X flX5_19 hH ev5 dX5_makeSpaceFor_25 ?_
      refine lv_icmp_ge (tgt := 41) hx hb dX5_makeSpaceFor_28 (by decide) (fun c => ?_) (fun c => ?_)
      · have h := (if_pos c).symm.trans h
        exact wX5_makeSpaceFor_41 X hA hq hw h _ _ _ hH hS (lv_sub hl [] rfl)
      · have h := (if_neg c).symm.trans h
        refine lv_aload_n hx hb dX5_makeSpaceFor_31 rfl (lv_at hl 0 rfl) ?_
        refine lv_aload_n hx hb dX5_makeSpaceFor_32 rfl (lv_at hl 0 rfl) ?_
        obtain ⟨v6, ev6, h⟩ := zb_some h
        refine z_geti X flX5_19 hH ev6 dX5_makeSpaceFor_33 ?_
        obtain ⟨k7, ek7, h⟩ := zb_some h
        obtain ⟨u8, eu8, h⟩ := zb_some h
        obtain ⟨S9, eS9⟩ : ∃ y : zS, y = zad S z 9 k7 := ⟨_, rfl⟩
        have h := zlet_at eS9 h
        obtain ⟨h, hz⟩ := zgeI_some h
        refine z_newa (t := 9) X (by decide) hH hS (fun q h => hA q (Nat.le_trans (Nat.le_trans hS.1.1 (Nat.le_of_eq hS.2)) h)) ek7 (zz_b hq hw hz eu8) dX5_makeSpaceFor_36 (fun H hH hS => ?_)
        rw [← eS9] at hH
        obtain ⟨hq, hw⟩ := zz_n hq hw eu8
        obtain ⟨S10, eS10, h⟩ := zb_some h
        refine z_putr X flX5_7 fpX5_1 (fun _ => ⟨rfl, rfl⟩) hH hS eS10 dX5_makeSpaceFor_38 (fun H locs hH hS => ?_)
        exact wX5_makeSpaceFor_41 X hA hq hw h _ _ _ hH hS (lv_sub hl [] rfl)
  · have h := (if_neg c).symm.trans h
    refine lv_iconst (v := (0 : Int32)) hx hb dX5_makeSpaceFor_13 (by decide) ?_
    exact z_zretZ X hH hS h hq hw dX5_makeSpaceFor_14
theorem mX5_makeSpaceFor {N : Nat} {zT : Nat} {r : Int32} {T : zS} {S : zS} {z : Nat} {x0 : Nat} {x1 : Int32} (h : rX5_makeSpaceFor N S z x0 x1 = some (r, T, zT)) : z ≤ zT := by
  unfold rX5_makeSpaceFor rX5_makeSpaceFor_0 at h
  exact (zgeI_some h).2
set_option maxRecDepth 100000 in
theorem kX5_makeSpaceFor {N : Nat} {zT : Nat} {r : Int32} {T : zS} {S : zS} {z : Nat} {x0 : Nat} {x1 : Int32} (hA0 : ∀ q : Nat, z ≤ q → A q) (h : rX5_makeSpaceFor N S z x0 x1 = some (r, T, zT)) : Met l yX5_makeSpaceFor [.code yX5_makeSpaceFor cX5_makeSpaceFor 2 (some .boolean)] ({ frames := 0, cells := zT - z, slots := 200 * (zT - z), locals := 0 } : Room) (zP D cy A S z [.ref x0, .int x1]) (zQ D cy A T zT (some (.int r))) (zT - z) (200 * (zT - z)) A := by
  have hm := mX5_makeSpaceFor h
  refine z_metA (lv := [(0, .ref x0), (1, .int x1)]) (by decide) (Nat.le_of_ble_eq_true rfl) rfl ?_
  intro p e s m below meth c X hz H locs ls hH hS hl
  exact wX5_makeSpaceFor_0 X (fun q hq => hA0 q (by rw [← hz]; exact hq)) (zz_s hm).1 (zz_s hm).2 h _ _ _ hH hS (lv_sub hl [0, 1] rfl)
set_option maxRecDepth 100000 in
set_option maxHeartbeats 4000000 in
theorem wX5_append_0 {N : Nat} {MC MS zT : Nat} {r : Int32} {T : zS} (X : zX D cy p s m meth c cX5_append 2 RX5 (some .boolean)) (hA : ∀ q : Nat, s.heap.size ≤ q → A q)  {S : zS} {z : Nat} {x0 : Nat} {x1 : Nat} {q w : Nat} (hq : q + zT ≤ MC + z) (hw : w + 200 * zT ≤ MS + 200 * z) (h : rX5_append_0 N S z x0 x1 = some (r, T, zT)) : zWt D cy A p l e ({ frames := 1, cells := MC, slots := MS, locals := 24 } : Room) s m args below meth c z q w MC MS (zQ D cy A T zT (some (.int r))) S 2 0 [(0, .ref x0), (1, .ref x1)] [] := by
  obtain ⟨hx, hb, hml, hown, hr, hlocks, hT⟩ := id X
  intro H locs ls hH hS hl
  unfold rX5_append_0 at h
  obtain ⟨h, hz⟩ := zgeI_some h
  refine lv_aload_n hx hb dX5_append_0 rfl (lv_at hl 0 rfl) ?_
  refine lv_aload_n hx hb dX5_append_1 rfl (lv_at hl 1 rfl) ?_
  obtain ⟨v1, ev1, h⟩ := zb_some h
  refine z_geti X flX5_27 hH ev1 dX5_append_2 ?_
  obtain ⟨u2, eu2, h⟩ := zb_some h
  obtain ⟨v5, S3, z4, eS3, h⟩ := zb3_some h
  obtain ⟨h, hzz4⟩ := zgeI_some h
  have hmz4 := mX5_makeSpaceFor eS3
  refine z_cV (As := [.int v1]) X hl hH hS mlX5_23 eu2 (kX5_makeSpaceFor (fun q h => hA q (Nat.le_trans (Nat.le_trans hS.1.1 (Nat.le_of_eq hS.2)) h)) eS3) rfl rfl (Nat.le_of_ble_eq_true rfl) ⟨rfl, rfl, Nat.le_of_ble_eq_true rfl, Nat.le_of_ble_eq_true rfl⟩ (zz_f hq hw hmz4 hzz4) dX5_append_5 (fun H locs hH hS => ?_)
  obtain ⟨hq, hw⟩ := zz_q hq hw hmz4
  have hz := hzz4
  refine lv_if_ne (tgt := 13) hx hb dX5_append_8 (by decide) (fun c => ?_) (fun c => ?_)
  · have h := (if_neg c).symm.trans h
    refine lv_aload_n hx hb dX5_append_13 rfl (lv_at hl 1 rfl) ?_
    obtain ⟨v6, ev6, h⟩ := zb_some h
    refine z_getr X flX5_7 hH ev6 dX5_append_14 ?_
    refine lv_iconst (v := (0 : Int32)) hx hb dX5_append_17 (by decide) ?_
    refine lv_aload_n hx hb dX5_append_18 rfl (lv_at hl 0 rfl) ?_
    obtain ⟨v7, ev7, h⟩ := zb_some h
    refine z_getr X flX5_7 hH ev7 dX5_append_19 ?_
    refine lv_aload_n hx hb dX5_append_22 rfl (lv_at hl 0 rfl) ?_
    obtain ⟨v8, ev8, h⟩ := zb_some h
    refine z_geti X flX5_27 hH ev8 dX5_append_23 ?_
    refine lv_aload_n hx hb dX5_append_26 rfl (lv_at hl 1 rfl) ?_
    obtain ⟨v9, ev9, h⟩ := zb_some h
    refine z_geti X flX5_27 hH ev9 dX5_append_27 ?_
    obtain ⟨S10, eS10, h⟩ := zb_some h
    refine z_copy X hl hH hS eS10 cpX5_30 cp_n cp_s cp_i (Nat.le_of_ble_eq_true rfl) (Nat.le_of_ble_eq_true rfl) dX5_append_30 (fun H locs hH hS => ?_)
    refine lv_aload_n hx hb dX5_append_33 rfl (lv_at hl 0 rfl) ?_
    refine lv_dup hx hb dX5_append_34 rfl ?_
    obtain ⟨v11, ev11, h⟩ := zb_some h
    refine z_geti X flX5_27 hH ev11 dX5_append_35 ?_
    refine lv_aload_n hx hb dX5_append_38 rfl (lv_at hl 1 rfl) ?_
    obtain ⟨v12, ev12, h⟩ := zb_some h
    refine z_geti X flX5_27 hH ev12 dX5_append_39 ?_
    refine lv_iadd hx hb dX5_append_42 ?_
    obtain ⟨S13, eS13, h⟩ := zb_some h
    refine z_puti X flX5_27 fpX5_2 hH hS eS13 dX5_append_43 (fun H locs hH hS => ?_)
    refine lv_iconst (v := (1 : Int32)) hx hb dX5_append_46 (by decide) ?_
    exact z_zretZ X hH hS h hq hw dX5_append_47
  · have h := (if_pos c).symm.trans h
    refine lv_iconst (v := (0 : Int32)) hx hb dX5_append_11 (by decide) ?_
    exact z_zretZ X hH hS h hq hw dX5_append_12
theorem mX5_append {N : Nat} {zT : Nat} {r : Int32} {T : zS} {S : zS} {z : Nat} {x0 : Nat} {x1 : Nat} (h : rX5_append N S z x0 x1 = some (r, T, zT)) : z ≤ zT := by
  unfold rX5_append rX5_append_0 at h
  exact (zgeI_some h).2
set_option maxRecDepth 100000 in
theorem kX5_append {N : Nat} {zT : Nat} {r : Int32} {T : zS} {S : zS} {z : Nat} {x0 : Nat} {x1 : Nat} (hA0 : ∀ q : Nat, z ≤ q → A q) (h : rX5_append N S z x0 x1 = some (r, T, zT)) : Met l yX5_append [.code yX5_append cX5_append 2 (some .boolean)] ({ frames := 1, cells := zT - z, slots := 200 * (zT - z), locals := 24 } : Room) (zP D cy A S z [.ref x0, .ref x1]) (zQ D cy A T zT (some (.int r))) (zT - z) (200 * (zT - z)) A := by
  have hm := mX5_append h
  refine z_metA (lv := [(0, .ref x0), (1, .ref x1)]) (by decide) (Nat.le_of_ble_eq_true rfl) rfl ?_
  intro p e s m below meth c X hz H locs ls hH hS hl
  exact wX5_append_0 X (fun q hq => hA0 q (by rw [← hz]; exact hq)) (zz_s hm).1 (zz_s hm).2 h _ _ _ hH hS (lv_sub hl [0, 1] rfl)
set_option maxRecDepth 100000 in
set_option maxHeartbeats 4000000 in
theorem wX5_put_0 {N : Nat} {MC MS zT : Nat} {r : Int32} {T : zS} (X : zX D cy p s m meth c cX5_put 2 RX5 (some .boolean)) (hA : ∀ q : Nat, s.heap.size ≤ q → A q)  {S : zS} {z : Nat} {x0 : Nat} {x1 : Int32} {q w : Nat} (hq : q + zT ≤ MC + z) (hw : w + 200 * zT ≤ MS + 200 * z) (h : rX5_put_0 N S z x0 x1 = some (r, T, zT)) : zWt D cy A p l e ({ frames := 1, cells := MC, slots := MS, locals := 21 } : Room) s m args below meth c z q w MC MS (zQ D cy A T zT (some (.int r))) S 2 0 [(0, .ref x0), (1, .int x1)] [] := by
  obtain ⟨hx, hb, hml, hown, hr, hlocks, hT⟩ := id X
  intro H locs ls hH hS hl
  unfold rX5_put_0 at h
  obtain ⟨h, hz⟩ := zgeI_some h
  refine lv_aload_n hx hb dX5_put_0 rfl (lv_at hl 0 rfl) ?_
  refine lv_iconst (v := (1 : Int32)) hx hb dX5_put_1 (by decide) ?_
  obtain ⟨u1, eu1, h⟩ := zb_some h
  obtain ⟨v4, S2, z3, eS2, h⟩ := zb3_some h
  obtain ⟨h, hzz3⟩ := zgeI_some h
  have hmz3 := mX5_makeSpaceFor eS2
  refine z_cV (As := [.int (1 : Int32)]) X hl hH hS mlX5_23 eu1 (kX5_makeSpaceFor (fun q h => hA q (Nat.le_trans (Nat.le_trans hS.1.1 (Nat.le_of_eq hS.2)) h)) eS2) rfl rfl (Nat.le_of_ble_eq_true rfl) ⟨rfl, rfl, Nat.le_of_ble_eq_true rfl, Nat.le_of_ble_eq_true rfl⟩ (zz_f hq hw hmz3 hzz3) dX5_put_2 (fun H locs hH hS => ?_)
  obtain ⟨hq, hw⟩ := zz_q hq hw hmz3
  have hz := hzz3
  refine lv_if_ne (tgt := 10) hx hb dX5_put_5 (by decide) (fun c => ?_) (fun c => ?_)
  · have h := (if_neg c).symm.trans h
    refine lv_aload_n hx hb dX5_put_10 rfl (lv_at hl 0 rfl) ?_
    obtain ⟨v5, ev5, h⟩ := zb_some h
    refine z_getr X flX5_7 hH ev5 dX5_put_11 ?_
    refine lv_aload_n hx hb dX5_put_14 rfl (lv_at hl 0 rfl) ?_
    obtain ⟨v6, ev6, h⟩ := zb_some h
    refine z_geti X flX5_27 hH ev6 dX5_put_15 ?_
    refine lv_iload_n hx hb dX5_put_18 rfl (lv_at hl 1 rfl) ?_
    obtain ⟨S7, eS7, h⟩ := zb_some h
    refine z_iast X hH hS eS7 dX5_put_19 (fun H locs hH hS => ?_)
    refine lv_aload_n hx hb dX5_put_20 rfl (lv_at hl 0 rfl) ?_
    refine lv_dup hx hb dX5_put_21 rfl ?_
    obtain ⟨v8, ev8, h⟩ := zb_some h
    refine z_geti X flX5_27 hH ev8 dX5_put_22 ?_
    refine lv_iconst (v := (1 : Int32)) hx hb dX5_put_25 (by decide) ?_
    refine lv_iadd hx hb dX5_put_26 ?_
    obtain ⟨S9, eS9, h⟩ := zb_some h
    refine z_puti X flX5_27 fpX5_2 hH hS eS9 dX5_put_27 (fun H locs hH hS => ?_)
    refine lv_iconst (v := (1 : Int32)) hx hb dX5_put_30 (by decide) ?_
    exact z_zretZ X hH hS h hq hw dX5_put_31
  · have h := (if_pos c).symm.trans h
    refine lv_iconst (v := (0 : Int32)) hx hb dX5_put_8 (by decide) ?_
    exact z_zretZ X hH hS h hq hw dX5_put_9
theorem mX5_put {N : Nat} {zT : Nat} {r : Int32} {T : zS} {S : zS} {z : Nat} {x0 : Nat} {x1 : Int32} (h : rX5_put N S z x0 x1 = some (r, T, zT)) : z ≤ zT := by
  unfold rX5_put rX5_put_0 at h
  exact (zgeI_some h).2
set_option maxRecDepth 100000 in
theorem kX5_put {N : Nat} {zT : Nat} {r : Int32} {T : zS} {S : zS} {z : Nat} {x0 : Nat} {x1 : Int32} (hA0 : ∀ q : Nat, z ≤ q → A q) (h : rX5_put N S z x0 x1 = some (r, T, zT)) : Met l yX5_put [.code yX5_put cX5_put 2 (some .boolean)] ({ frames := 1, cells := zT - z, slots := 200 * (zT - z), locals := 21 } : Room) (zP D cy A S z [.ref x0, .int x1]) (zQ D cy A T zT (some (.int r))) (zT - z) (200 * (zT - z)) A := by
  have hm := mX5_put h
  refine z_metA (lv := [(0, .ref x0), (1, .int x1)]) (by decide) (Nat.le_of_ble_eq_true rfl) rfl ?_
  intro p e s m below meth c X hz H locs ls hH hS hl
  exact wX5_put_0 X (fun q hq => hA0 q (by rw [← hz]; exact hq)) (zz_s hm).1 (zz_s hm).2 h _ _ _ hH hS (lv_sub hl [0, 1] rfl)
set_option maxRecDepth 100000 in
set_option maxHeartbeats 4000000 in
theorem wX5_isSameAs_15 {z : Nat} {N : Nat} {r : Int32} {T : zS} (X : zX D cy p s m meth c cX5_isSameAs 3 RX5 (some .boolean)) {K15 : zS × Nat × Nat × Int32 → Option (Int32 × zS)} (hK15 : ∀ (S : zS) (x0 : Nat) (x1 : Nat) (x2 : Int32), K15 (S, x0, x1, x2) = some (r, T) → zWt D cy A p l e { frames := 0, cells := 0, slots := 0, locals := 0 } s m args below meth c z 0 0 0 0 (zQ D cy A T z (some (.int r))) S 3 15 [(0, .ref x0), (1, .ref x1), (2, .int x2)] []) {S : zS} {x0 : Nat} {x1 : Nat} {x2 : Int32} (h : rX5_isSameAs_15 N K15 S x0 x1 x2 = some (r, T)) : zWt D cy A p l e { frames := 0, cells := 0, slots := 0, locals := 0 } s m args below meth c z 0 0 0 0 (zQ D cy A T z (some (.int r))) S 3 15 [(0, .ref x0), (1, .ref x1), (2, .int x2)] [] := by
  obtain ⟨hx, hb, hml, hown, hr, hlocks, hT⟩ := id X
  intro H locs ls hH hS hl
  unfold rX5_isSameAs_15 at h
  refine lv_iload_n hx hb dX5_isSameAs_15 rfl (lv_at hl 2 rfl) ?_
  refine lv_aload_n hx hb dX5_isSameAs_16 rfl (lv_at hl 0 rfl) ?_
  obtain ⟨v1, ev1, h⟩ := zb_some h
  refine z_geti X flX5_27 hH ev1 dX5_isSameAs_17 ?_
  refine lv_icmp_ge (tgt := 46) hx hb dX5_isSameAs_20 (by decide) (fun c => ?_) (fun c => ?_)
  · have h := (if_pos c).symm.trans h
    refine lv_iconst (v := (1 : Int32)) hx hb dX5_isSameAs_46 (by decide) ?_
    exact z_zret X hH hS h dX5_isSameAs_47
  · have h := (if_neg c).symm.trans h
    refine lv_aload_n hx hb dX5_isSameAs_23 rfl (lv_at hl 0 rfl) ?_
    obtain ⟨v2, ev2, h⟩ := zb_some h
    refine z_getr X flX5_7 hH ev2 dX5_isSameAs_24 ?_
    refine lv_iload_n hx hb dX5_isSameAs_27 rfl (lv_at hl 2 rfl) ?_
    obtain ⟨v3, ev3, h⟩ := zb_some h
    refine z_iald X hH ev3 dX5_isSameAs_28 ?_
    refine lv_aload_n hx hb dX5_isSameAs_29 rfl (lv_at hl 1 rfl) ?_
    obtain ⟨v4, ev4, h⟩ := zb_some h
    refine z_getr X flX5_7 hH ev4 dX5_isSameAs_30 ?_
    refine lv_iload_n hx hb dX5_isSameAs_33 rfl (lv_at hl 2 rfl) ?_
    obtain ⟨v5, ev5, h⟩ := zb_some h
    refine z_iald X hH ev5 dX5_isSameAs_34 ?_
    refine lv_icmp_eq (tgt := 40) hx hb dX5_isSameAs_35 (by decide) (fun c => ?_) (fun c => ?_)
    · have h := (if_pos c).symm.trans h
      refine lv_iinc (v := (x2 + (1 : Int32))) (lv' := [(2, .int (x2 + (1 : Int32))), (0, .ref x0), (1, .ref x1)]) hx hb dX5_isSameAs_40 hl (k := 2) rfl (z_ii (by decide) _) (by decide) rfl (fun ls hl => ?_)
      refine lv_goto (tgt := 15) hx hb dX5_isSameAs_43 (by decide) ?_
      exact hK15 _ _ _ _ h _ _ _ hH hS (lv_sub hl [1, 2, 0] rfl)
    · have h := (if_neg c).symm.trans h
      refine lv_iconst (v := (0 : Int32)) hx hb dX5_isSameAs_38 (by decide) ?_
      exact z_zret X hH hS h dX5_isSameAs_39
set_option maxRecDepth 100000 in
set_option maxHeartbeats 4000000 in
theorem uX5_isSameAs_15 {z : Nat} {N : Nat} {r : Int32} {T : zS} (X : zX D cy p s m meth c cX5_isSameAs 3 RX5 (some .boolean))  {S : zS} {x0 : Nat} {x1 : Nat} {x2 : Int32} (h : rlX5_isSameAs_15 N S x0 x1 x2 = some (r, T)) : zWt D cy A p l e { frames := 0, cells := 0, slots := 0, locals := 0 } s m args below meth c z 0 0 0 0 (zQ D cy A T z (some (.int r))) S 3 15 [(0, .ref x0), (1, .ref x1), (2, .int x2)] [] := by
  unfold rlX5_isSameAs_15 at h
  refine zloop_ind (P := fun y => zWt D cy A p l e { frames := 0, cells := 0, slots := 0, locals := 0 } s m args below meth c z 0 0 0 0 (zQ D cy A T z (some (.int r))) y.1 3 15 [(0, .ref y.2.1), (1, .ref y.2.2.1), (2, .int y.2.2.2)] []) ?_ N (S, x0, x1, x2) h
  intro K hK y hy
  obtain ⟨S, x0, x1, x2⟩ := y
  exact wX5_isSameAs_15 X (fun S x0 x1 x2 hq => hK (S, x0, x1, x2) hq) hy
set_option maxRecDepth 100000 in
set_option maxHeartbeats 4000000 in
theorem wX5_isSameAs_0 {z : Nat} {N : Nat} {r : Int32} {T : zS} (X : zX D cy p s m meth c cX5_isSameAs 3 RX5 (some .boolean))  {S : zS} {x0 : Nat} {x1 : Nat} (h : rX5_isSameAs_0 N S x0 x1 = some (r, T)) : zWt D cy A p l e { frames := 0, cells := 0, slots := 0, locals := 0 } s m args below meth c z 0 0 0 0 (zQ D cy A T z (some (.int r))) S 3 0 [(0, .ref x0), (1, .ref x1)] [] := by
  obtain ⟨hx, hb, hml, hown, hr, hlocks, hT⟩ := id X
  intro H locs ls hH hS hl
  unfold rX5_isSameAs_0 at h
  refine lv_aload_n hx hb dX5_isSameAs_0 rfl (lv_at hl 0 rfl) ?_
  obtain ⟨v6, ev6, h⟩ := zb_some h
  refine z_geti X flX5_27 hH ev6 dX5_isSameAs_1 ?_
  refine lv_aload_n hx hb dX5_isSameAs_4 rfl (lv_at hl 1 rfl) ?_
  obtain ⟨v7, ev7, h⟩ := zb_some h
  refine z_geti X flX5_27 hH ev7 dX5_isSameAs_5 ?_
  refine lv_icmp_eq (tgt := 13) hx hb dX5_isSameAs_8 (by decide) (fun c => ?_) (fun c => ?_)
  · have h := (if_pos c).symm.trans h
    refine lv_iconst (v := (0 : Int32)) hx hb dX5_isSameAs_13 (by decide) ?_
    refine lv_istore_n (lv' := [(2, .int (0 : Int32)), (0, .ref x0), (1, .ref x1)]) hx hb dX5_isSameAs_14 rfl hl (by decide) rfl (fun ls hl => ?_)
    exact uX5_isSameAs_15 X h _ _ _ hH hS (lv_sub hl [1, 2, 0] rfl)
  · have h := (if_neg c).symm.trans h
    refine lv_iconst (v := (0 : Int32)) hx hb dX5_isSameAs_11 (by decide) ?_
    exact z_zret X hH hS h dX5_isSameAs_12
set_option maxRecDepth 100000 in
theorem kX5_isSameAs {N : Nat} {r : Int32} {T : zS} {S : zS} {z : Nat} {x0 : Nat} {x1 : Nat} (h : rX5_isSameAs N S x0 x1 = some (r, T)) : Met l yX5_isSameAs [.code yX5_isSameAs cX5_isSameAs 3 (some .boolean)] { frames := 0, cells := 0, slots := 0, locals := 0 } (zP D cy A S z [.ref x0, .ref x1]) (zQ D cy A T z (some (.int r))) 0 0 A := by
  refine z_met (lv := [(0, .ref x0), (1, .ref x1)]) (by decide) (Nat.le_of_ble_eq_true rfl) rfl ?_
  intro p e s m below meth c X H locs ls hH hS hl
  exact wX5_isSameAs_0 X h _ _ _ hH hS (lv_sub hl [0, 1] rfl)
set_option maxRecDepth 100000 in
set_option maxHeartbeats 4000000 in
theorem wX6_tapeTo_0 {N : Nat} {MC MS zT : Nat} {r : Int32} {T : zS} (X : zX D cy p s m meth c cX6_tapeTo 2 RX6 (some .int)) (hA : ∀ q : Nat, s.heap.size ≤ q → A q)  {S : zS} {z : Nat} {x0 : Nat} {x1 : Int32} {q w : Nat} (hq : q + zT ≤ MC + z) (hw : w + 200 * zT ≤ MS + 200 * z) (h : rX6_tapeTo_0 N S z x0 x1 = some (r, T, zT)) : zWt D cy A p l e ({ frames := 2, cells := MC, slots := MS, locals := 45 } : Room) s m args below meth c z q w MC MS (zQ D cy A T zT (some (.int r))) S 2 0 [(0, .ref x0), (1, .int x1)] [] := by
  obtain ⟨hx, hb, hml, hown, hr, hlocks, hT⟩ := id X
  intro H locs ls hH hS hl
  unfold rX6_tapeTo_0 at h
  obtain ⟨h, hz⟩ := zgeI_some h
  refine lv_aload_n hx hb dX6_tapeTo_0 rfl (lv_at hl 0 rfl) ?_
  obtain ⟨v1, ev1, h⟩ := zb_some h
  refine z_getr X flX6_20 hH ev1 dX6_tapeTo_1 ?_
  refine lv_iload_n hx hb dX6_tapeTo_4 rfl (lv_at hl 1 rfl) ?_
  obtain ⟨v2, ev2, h⟩ := zb_some h
  refine z_aald X hH 12 (by decide) ev2 dX6_tapeTo_5 ?_
  refine lv_iconst (v := (0 : Int32)) hx hb dX6_tapeTo_6 (by decide) ?_
  obtain ⟨S3, eS3, h⟩ := zb_some h
  refine z_puti X flX6_24 fpX5_2 hH hS eS3 dX6_tapeTo_7 (fun H locs hH hS => ?_)
  refine lv_aload_n hx hb dX6_tapeTo_10 rfl (lv_at hl 0 rfl) ?_
  obtain ⟨v4, ev4, h⟩ := zb_some h
  refine z_getr X flX6_20 hH ev4 dX6_tapeTo_11 ?_
  refine lv_iload_n hx hb dX6_tapeTo_14 rfl (lv_at hl 1 rfl) ?_
  obtain ⟨v5, ev5, h⟩ := zb_some h
  refine z_aald X hH 12 (by decide) ev5 dX6_tapeTo_15 ?_
  refine lv_aload_n hx hb dX6_tapeTo_16 rfl (lv_at hl 0 rfl) ?_
  obtain ⟨v6, ev6, h⟩ := zb_some h
  refine z_getr X flX6_14 hH ev6 dX6_tapeTo_17 ?_
  obtain ⟨u7, eu7, h⟩ := zb_some h
  obtain ⟨v10, S8, z9, eS8, h⟩ := zb3_some h
  obtain ⟨h, hzz9⟩ := zgeI_some h
  have hmz9 := mX5_append eS8
  refine z_cV (As := [.ref v6]) X hl hH hS mlX6_28 eu7 (kX5_append (fun q h => hA q (Nat.le_trans (Nat.le_trans hS.1.1 (Nat.le_of_eq hS.2)) h)) eS8) rfl rfl (Nat.le_of_ble_eq_true rfl) ⟨rfl, rfl, Nat.le_of_ble_eq_true rfl, Nat.le_of_ble_eq_true rfl⟩ (zz_f hq hw hmz9 hzz9) dX6_tapeTo_20 (fun H locs hH hS => ?_)
  obtain ⟨hq, hw⟩ := zz_q hq hw hmz9
  have hz := hzz9
  refine lv_pop hx hb dX6_tapeTo_23 rfl ?_
  refine lv_aload_n hx hb dX6_tapeTo_24 rfl (lv_at hl 0 rfl) ?_
  obtain ⟨v11, ev11, h⟩ := zb_some h
  refine z_getr X flX6_14 hH ev11 dX6_tapeTo_25 ?_
  refine lv_iconst (v := (0 : Int32)) hx hb dX6_tapeTo_28 (by decide) ?_
  obtain ⟨S12, eS12, h⟩ := zb_some h
  refine z_puti X flX6_24 fpX5_2 hH hS eS12 dX6_tapeTo_29 (fun H locs hH hS => ?_)
  refine lv_aload_n hx hb dX6_tapeTo_32 rfl (lv_at hl 0 rfl) ?_
  obtain ⟨v13, ev13, h⟩ := zb_some h
  refine z_getr X flX6_20 hH ev13 dX6_tapeTo_33 ?_
  refine lv_iload_n hx hb dX6_tapeTo_36 rfl (lv_at hl 1 rfl) ?_
  obtain ⟨v14, ev14, h⟩ := zb_some h
  refine z_aald X hH 12 (by decide) ev14 dX6_tapeTo_37 ?_
  obtain ⟨v15, ev15, h⟩ := zb_some h
  refine z_geti X flX6_24 hH ev15 dX6_tapeTo_38 ?_
  exact z_iretZ X hH hS h hq hw dX6_tapeTo_41
theorem mX6_tapeTo {N : Nat} {zT : Nat} {r : Int32} {T : zS} {S : zS} {z : Nat} {x0 : Nat} {x1 : Int32} (h : rX6_tapeTo N S z x0 x1 = some (r, T, zT)) : z ≤ zT := by
  unfold rX6_tapeTo rX6_tapeTo_0 at h
  exact (zgeI_some h).2
set_option maxRecDepth 100000 in
theorem kX6_tapeTo {N : Nat} {zT : Nat} {r : Int32} {T : zS} {S : zS} {z : Nat} {x0 : Nat} {x1 : Int32} (hA0 : ∀ q : Nat, z ≤ q → A q) (h : rX6_tapeTo N S z x0 x1 = some (r, T, zT)) : Met l yX6_tapeTo [.code yX6_tapeTo cX6_tapeTo 2 (some .int)] ({ frames := 2, cells := zT - z, slots := 200 * (zT - z), locals := 45 } : Room) (zP D cy A S z [.ref x0, .int x1]) (zQ D cy A T zT (some (.int r))) (zT - z) (200 * (zT - z)) A := by
  have hm := mX6_tapeTo h
  refine z_metA (lv := [(0, .ref x0), (1, .int x1)]) (by decide) (Nat.le_of_ble_eq_true rfl) rfl ?_
  intro p e s m below meth c X hz H locs ls hH hS hl
  exact wX6_tapeTo_0 X (fun q hq => hA0 q (by rw [← hz]; exact hq)) (zz_s hm).1 (zz_s hm).2 h _ _ _ hH hS (lv_sub hl [0, 1] rfl)
end
