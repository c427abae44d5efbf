section
variable {D : va_G} {cy : Nat → ClassId} {A : Nat → Prop} {p : Program} {l : Launch} {e : Env} {s : State} {m : MethodId} {args : Array Value} {below : List Frame} {meth : Method} {c : Code}
set_option maxRecDepth 100000 in
set_option maxHeartbeats 4000000 in
theorem wX7_built_63 {N : Nat} {MC MS zT : Nat} {r : Int32} {T : zS} (X : zX D cy p s m meth c cX7_built 4 RX7 (some .int)) (hA : ∀ q : Nat, s.heap.size ≤ q → A q) {K34 : zS × Nat × Nat × Int32 × Int32 → Option (Int32 × zS × Nat)} (hK34 : ∀ (S : zS) (z : Nat) (x0 : Nat) (x2 : Int32) (x3 : Int32) (q : Nat) (w : Nat), q + zT ≤ MC + z → w + 200 * zT ≤ MS + 200 * z → K34 (S, z, x0, x2, x3) = some (r, T, zT) → zWt D cy A p l e ({ frames := 5, cells := MC, slots := MS, locals := 117 } : Room) s m args below meth c z q w MC MS (zQ D cy A T zT (some (.int r))) S 4 34 [(0, .ref x0), (2, .int x2), (3, .int x3)] []) {S : zS} {z : Nat} {x0 : Nat} {x3 : Int32} {y0 : Int32} {y1 : Int32} {q w : Nat} (hq : q + zT ≤ MC + z) (hw : w + 200 * zT ≤ MS + 200 * z) (h : rX7_built_63 N K34 S z x0 x3 y0 y1 = some (r, T, zT)) : zWt D cy A p l e ({ frames := 5, cells := MC, slots := MS, locals := 117 } : Room) s m args below meth c z q w MC MS (zQ D cy A T zT (some (.int r))) S 4 63 [(0, .ref x0), (3, .int x3)] [.int y1, .int y0] := by
  obtain ⟨hx, hb, hml, hown, hr, hlocks, hT⟩ := id X
  intro H locs ls hH hS hl
  unfold rX7_built_63 at h
  obtain ⟨h, hz⟩ := zgeI_some h
  refine lv_iadd hx hb dX7_built_63 ?_
  refine lv_istore_n (lv' := [(2, .int (y0 + y1)), (0, .ref x0), (3, .int x3)]) hx hb dX7_built_64 rfl hl (by decide) rfl (fun ls hl => ?_)
  refine lv_iinc (v := (x3 + (1 : Int32))) (lv' := [(3, .int (x3 + (1 : Int32))), (2, .int (y0 + y1)), (0, .ref x0)]) hx hb dX7_built_65 hl (k := 2) rfl (z_ii (by decide) _) (by decide) rfl (fun ls hl => ?_)
  refine lv_goto (tgt := 34) hx hb dX7_built_68 (by decide) ?_
  exact hK34 _ _ _ _ _ _ _ hq hw h _ _ _ hH hS (lv_sub hl [2, 1, 0] rfl)
set_option maxRecDepth 100000 in
set_option maxHeartbeats 4000000 in
theorem wX7_built_34 {N : Nat} {MC MS zT : Nat} {r : Int32} {T : zS} (X : zX D cy p s m meth c cX7_built 4 RX7 (some .int)) (hA : ∀ q : Nat, s.heap.size ≤ q → A q) {K34 : zS × Nat × Nat × Int32 × Int32 → Option (Int32 × zS × Nat)} (hK34 : ∀ (S : zS) (z : Nat) (x0 : Nat) (x2 : Int32) (x3 : Int32) (q : Nat) (w : Nat), q + zT ≤ MC + z → w + 200 * zT ≤ MS + 200 * z → K34 (S, z, x0, x2, x3) = some (r, T, zT) → zWt D cy A p l e ({ frames := 5, cells := MC, slots := MS, locals := 117 } : Room) s m args below meth c z q w MC MS (zQ D cy A T zT (some (.int r))) S 4 34 [(0, .ref x0), (2, .int x2), (3, .int x3)] []) {S : zS} {z : Nat} {x0 : Nat} {x2 : Int32} {x3 : Int32} {q w : Nat} (hq : q + zT ≤ MC + z) (hw : w + 200 * zT ≤ MS + 200 * z) (h : rX7_built_34 N K34 S z x0 x2 x3 = some (r, T, zT)) : zWt D cy A p l e ({ frames := 5, cells := MC, slots := MS, locals := 117 } : Room) s m args below meth c z q w MC MS (zQ D cy A T zT (some (.int r))) S 4 34 [(0, .ref x0), (2, .int x2), (3, .int x3)] [] := by
  obtain ⟨hx, hb, hml, hown, hr, hlocks, hT⟩ := id X
  intro H locs ls hH hS hl
  unfold rX7_built_34 at h
  obtain ⟨h, hz⟩ := zgeI_some h
  refine lv_iload_n hx hb dX7_built_34 rfl (lv_at hl 2 rfl) ?_
  refine lv_aload_n hx hb dX7_built_35 rfl (lv_at hl 0 rfl) ?_
  obtain ⟨v1, ev1, h⟩ := zb_some h
  refine z_getr X flX7_19 hH ev1 dX7_built_36 ?_
  obtain ⟨v2, ev2, h⟩ := zb_some h
  refine z_geti X flX7_118 hH ev2 dX7_built_39 ?_
  refine lv_icmp_ge (tgt := 71) hx hb dX7_built_42 (by decide) (fun c => ?_) (fun c => ?_)
  · have h := (if_pos c).symm.trans h
    refine lv_iload_n hx hb dX7_built_71 rfl (lv_at hl 1 rfl) ?_
    exact z_iretZ X hH hS h hq hw dX7_built_72
  · have h := (if_neg c).symm.trans h
    refine lv_iload_n hx hb dX7_built_45 rfl (lv_at hl 1 rfl) ?_
    refine lv_aload_n hx hb dX7_built_46 rfl (lv_at hl 0 rfl) ?_
    obtain ⟨v3, ev3, h⟩ := zb_some h
    refine z_getr X flX7_33 hH ev3 dX7_built_47 ?_
    obtain ⟨v4, ev4, h⟩ := zb_some h
    refine z_getr X flX7_142 hH ev4 dX7_built_50 ?_
    refine lv_iload_n hx hb dX7_built_53 rfl (lv_at hl 2 rfl) ?_
    obtain ⟨v5, ev5, h⟩ := zb_some h
    refine z_zald X hH ev5 dX7_built_54 ?_
    refine lv_if_eq (tgt := 62) hx hb dX7_built_55 (by decide) (fun c => ?_) (fun c => ?_)
    · have h := (if_pos c).symm.trans h
      refine lv_iconst (v := (1 : Int32)) hx hb dX7_built_62 (by decide) ?_
      exact wX7_built_63 X hA hK34 hq hw h _ _ _ hH hS (lv_sub hl [0, 2] rfl)
    · have h := (if_neg c).symm.trans h
      refine lv_iconst (v := (0 : Int32)) hx hb dX7_built_58 (by decide) ?_
      refine lv_goto (tgt := 63) hx hb dX7_built_59 (by decide) ?_
      exact wX7_built_63 X hA hK34 hq hw h _ _ _ hH hS (lv_sub hl [0, 2] rfl)
set_option maxRecDepth 100000 in
set_option maxHeartbeats 4000000 in
theorem uX7_built_34 {N : Nat} {MC MS zT : Nat} {r : Int32} {T : zS} (X : zX D cy p s m meth c cX7_built 4 RX7 (some .int)) (hA : ∀ q : Nat, s.heap.size ≤ q → A q)  {S : zS} {z : Nat} {x0 : Nat} {x2 : Int32} {x3 : Int32} {q w : Nat} (hq : q + zT ≤ MC + z) (hw : w + 200 * zT ≤ MS + 200 * z) (h : rlX7_built_34 N S z x0 x2 x3 = some (r, T, zT)) : zWt D cy A p l e ({ frames := 5, cells := MC, slots := MS, locals := 117 } : Room) s m args below meth c z q w MC MS (zQ D cy A T zT (some (.int r))) S 4 34 [(0, .ref x0), (2, .int x2), (3, .int x3)] [] := by
  unfold rlX7_built_34 at h
  refine zloop_ind (P := fun y => ∀ (q : Nat) (w : Nat), q + zT ≤ MC + y.2.1 → w + 200 * zT ≤ MS + 200 * y.2.1 → zWt D cy A p l e ({ frames := 5, cells := MC, slots := MS, locals := 117 } : Room) s m args below meth c y.2.1 q w MC MS (zQ D cy A T zT (some (.int r))) y.1 4 34 [(0, .ref y.2.2.1), (2, .int y.2.2.2.1), (3, .int y.2.2.2.2)] []) ?_ N (S, z, x0, x2, x3) h _ _ hq hw
  intro K hK y hy q w hq hw
  obtain ⟨S, z, x0, x2, x3⟩ := y
  exact wX7_built_34 X hA (fun S z x0 x2 x3 q w hq hw h => hK (S, z, x0, x2, x3) h q w hq hw) hq hw hy
set_option maxRecDepth 100000 in
set_option maxHeartbeats 4000000 in
theorem wX7_built_0 {N : Nat} {MC MS zT : Nat} {r : Int32} {T : zS} (X : zX D cy p s m meth c cX7_built 4 RX7 (some .int)) (hA : ∀ q : Nat, s.heap.size ≤ q → A q)  {S : zS} {z : Nat} {x0 : Nat} {x1 : Int32} {q w : Nat} (hq : q + zT ≤ MC + z) (hw : w + 200 * zT ≤ MS + 200 * z) (h : rX7_built_0 N S z x0 x1 = some (r, T, zT)) : zWt D cy A p l e ({ frames := 5, cells := MC, slots := MS, locals := 117 } : Room) s m args below meth c z q w MC MS (zQ D cy A T zT (some (.int r))) S 4 0 [(0, .ref x0), (1, .int x1)] [] := by
  obtain ⟨hx, hb, hml, hown, hr, hlocks, hT⟩ := id X
  intro H locs ls hH hS hl
  unfold rX7_built_0 at h
  obtain ⟨h, hz⟩ := zgeI_some h
  refine lv_iload_n hx hb dX7_built_0 rfl (lv_at hl 1 rfl) ?_
  obtain ⟨v7, S6, eS6, h⟩ := zb2_some h
  refine z_cS (As := [.int x1]) X hl hH hS mlX7_93 (kX7_isRoom eS6) rfl rfl (Nat.le_of_ble_eq_true rfl) ⟨rfl, rfl, Nat.le_of_ble_eq_true rfl, Nat.le_of_ble_eq_true rfl⟩ (zz_0 hq hw hz) dX7_built_1 (fun H locs hH hS => ?_)
  refine lv_if_ne (tgt := 9) hx hb dX7_built_4 (by decide) (fun c => ?_) (fun c => ?_)
  · have h := (if_neg c).symm.trans h
    refine lv_aload_n hx hb dX7_built_9 rfl (lv_at hl 0 rfl) ?_
    obtain ⟨v8, ev8, h⟩ := zb_some h
    refine z_getr X flX7_33 hH ev8 dX7_built_10 ?_
    refine lv_aload_n hx hb dX7_built_13 rfl (lv_at hl 0 rfl) ?_
    obtain ⟨v9, ev9, h⟩ := zb_some h
    refine z_getr X flX7_25 hH ev9 dX7_built_14 ?_
    refine lv_iload_n hx hb dX7_built_17 rfl (lv_at hl 1 rfl) ?_
    obtain ⟨v10, ev10, h⟩ := zb_some h
    refine z_aald X hH 13 (by decide) ev10 dX7_built_18 ?_
    obtain ⟨u11, eu11, h⟩ := zb_some h
    obtain ⟨S12, eS12, h⟩ := zb_some h
    refine z_cV (As := [.ref v10]) X hl hH hS mlX7_170 eu11 (kX1_open eS12) rfl rfl (Nat.le_of_ble_eq_true rfl) ⟨rfl, rfl, Nat.le_of_ble_eq_true rfl, Nat.le_of_ble_eq_true rfl⟩ (zz_0 hq hw hz) dX7_built_19 (fun H locs hH hS => ?_)
    refine lv_aload_n hx hb dX7_built_22 rfl (lv_at hl 0 rfl) ?_
    obtain ⟨v13, ev13, h⟩ := zb_some h
    refine z_getr X flX7_33 hH ev13 dX7_built_23 ?_
    refine lv_iconst (v := (-1 : Int32)) hx hb dX7_built_26 (by decide) ?_
    obtain ⟨u14, eu14, h⟩ := zb_some h
    obtain ⟨S15, z16, eS15, h⟩ := zb2_some h
    obtain ⟨h, hzz16⟩ := zgeI_some h
    have hmz16 := mX1_make eS15
    refine z_cV (As := [.int (-1 : Int32)]) X hl hH hS mlX7_174 eu14 (kX1_make (fun q h => hA q (Nat.le_trans (Nat.le_trans hS.1.1 (Nat.le_of_eq hS.2)) h)) eS15) rfl rfl (Nat.le_of_ble_eq_true rfl) ⟨rfl, rfl, Nat.le_of_ble_eq_true rfl, Nat.le_of_ble_eq_true rfl⟩ (zz_f hq hw hmz16 hzz16) dX7_built_27 (fun H locs hH hS => ?_)
    obtain ⟨hq, hw⟩ := zz_q hq hw hmz16
    have hz := hzz16
    refine lv_iconst (v := (0 : Int32)) hx hb dX7_built_30 (by decide) ?_
    refine lv_istore_n (lv' := [(2, .int (0 : Int32)), (0, .ref x0), (1, .int x1)]) hx hb dX7_built_31 rfl hl (by decide) rfl (fun ls hl => ?_)
    refine lv_iconst (v := (0 : Int32)) hx hb dX7_built_32 (by decide) ?_
    refine lv_istore_n (lv' := [(3, .int (0 : Int32)), (2, .int (0 : Int32)), (0, .ref x0), (1, .int x1)]) hx hb dX7_built_33 rfl hl (by decide) rfl (fun ls hl => ?_)
    exact uX7_built_34 X hA hq hw h _ _ _ hH hS (lv_sub hl [2, 1, 0] rfl)
  · have h := (if_pos c).symm.trans h
    refine lv_iconst (v := (-1 : Int32)) hx hb dX7_built_7 (by decide) ?_
    exact z_iretZ X hH hS h hq hw dX7_built_8
theorem mX7_built {N : Nat} {zT : Nat} {r : Int32} {T : zS} {S : zS} {z : Nat} {x0 : Nat} {x1 : Int32} (h : rX7_built N S z x0 x1 = some (r, T, zT)) : z ≤ zT := by
  unfold rX7_built rX7_built_0 at h
  exact (zgeI_some h).2
set_option maxRecDepth 100000 in
theorem kX7_built {N : Nat} {zT : Nat} {r : Int32} {T : zS} {S : zS} {z : Nat} {x0 : Nat} {x1 : Int32} (hA0 : ∀ q : Nat, z ≤ q → A q) (h : rX7_built N S z x0 x1 = some (r, T, zT)) : Met l yX7_built [.code yX7_built cX7_built 4 (some .int)] ({ frames := 5, cells := zT - z, slots := 200 * (zT - z), locals := 117 } : Room) (zP D cy A S z [.ref x0, .int x1]) (zQ D cy A T zT (some (.int r))) (zT - z) (200 * (zT - z)) A := by
  have hm := mX7_built h
  refine z_metA (lv := [(0, .ref x0), (1, .int x1)]) (by decide) (Nat.le_of_ble_eq_true rfl) rfl ?_
  intro p e s m below meth c X hz H locs ls hH hS hl
  exact wX7_built_0 X (fun q hq => hA0 q (by rw [← hz]; exact hq)) (zz_s hm).1 (zz_s hm).2 h _ _ _ hH hS (lv_sub hl [0, 1] rfl)
set_option maxRecDepth 100000 in
set_option maxHeartbeats 4000000 in
theorem wX7_buildBoth_0 {N : Nat} {MC MS zT : Nat} {T : zS} (X : zX D cy p s m meth c cX7_buildBoth 4 RX7 none) (hA : ∀ q : Nat, s.heap.size ≤ q → A q)  {S : zS} {z : Nat} {x0 : Nat} {x1 : Int32} {x2 : Int32} {x3 : Int32} {q w : Nat} (hq : q + zT ≤ MC + z) (hw : w + 200 * zT ≤ MS + 200 * z) (h : rX7_buildBoth_0 N S z x0 x1 x2 x3 = some (T, zT)) : zWt D cy A p l e ({ frames := 6, cells := MC, slots := MS, locals := 139 } : Room) s m args below meth c z q w MC MS (zQ D cy A T zT none) S 4 0 [(0, .ref x0), (1, .int x1), (2, .int x2), (3, .int x3)] [] := by
  obtain ⟨hx, hb, hml, hown, hr, hlocks, hT⟩ := id X
  intro H locs ls hH hS hl
  unfold rX7_buildBoth_0 at h
  obtain ⟨h, hz⟩ := zgeV_some h
  refine lv_aload_n hx hb dX7_buildBoth_0 rfl (lv_at hl 0 rfl) ?_
  obtain ⟨v1, ev1, h⟩ := zb_some h
  refine z_getr X flX7_33 hH ev1 dX7_buildBoth_1 ?_
  refine lv_aload_n hx hb dX7_buildBoth_4 rfl (lv_at hl 0 rfl) ?_
  obtain ⟨v2, ev2, h⟩ := zb_some h
  refine z_getr X flX7_25 hH ev2 dX7_buildBoth_5 ?_
  refine lv_iload_n hx hb dX7_buildBoth_8 rfl (lv_at hl 1 rfl) ?_
  obtain ⟨v3, ev3, h⟩ := zb_some h
  refine z_aald X hH 13 (by decide) ev3 dX7_buildBoth_9 ?_
  refine lv_iload_n hx hb dX7_buildBoth_10 rfl (lv_at hl 3 rfl) ?_
  obtain ⟨u4, eu4, h⟩ := zb_some h
  obtain ⟨S5, z6, eS5, h⟩ := zb2_some h
  obtain ⟨h, hzz6⟩ := zgeV_some h
  have hmz6 := mX1_makeIn eS5
  refine z_cV (As := [.ref v3, .int x3]) X hl hH hS mlX7_138 eu4 (kX1_makeIn (fun q h => hA q (Nat.le_trans (Nat.le_trans hS.1.1 (Nat.le_of_eq hS.2)) h)) eS5) rfl rfl (Nat.le_of_ble_eq_true rfl) ⟨rfl, rfl, Nat.le_of_ble_eq_true rfl, Nat.le_of_ble_eq_true rfl⟩ (zz_f hq hw hmz6 hzz6) dX7_buildBoth_11 (fun H locs hH hS => ?_)
  obtain ⟨hq, hw⟩ := zz_q hq hw hmz6
  have hz := hzz6
  refine lv_aload_n hx hb dX7_buildBoth_14 rfl (lv_at hl 0 rfl) ?_
  obtain ⟨v7, ev7, h⟩ := zb_some h
  refine z_getr X flX7_37 hH ev7 dX7_buildBoth_15 ?_
  refine lv_aload_n hx hb dX7_buildBoth_18 rfl (lv_at hl 0 rfl) ?_
  obtain ⟨v8, ev8, h⟩ := zb_some h
  refine z_getr X flX7_25 hH ev8 dX7_buildBoth_19 ?_
  refine lv_iload_n hx hb dX7_buildBoth_22 rfl (lv_at hl 2 rfl) ?_
  obtain ⟨v9, ev9, h⟩ := zb_some h
  refine z_aald X hH 13 (by decide) ev9 dX7_buildBoth_23 ?_
  refine lv_iload_n hx hb dX7_buildBoth_24 rfl (lv_at hl 3 rfl) ?_
  obtain ⟨u10, eu10, h⟩ := zb_some h
  obtain ⟨S11, z12, eS11, h⟩ := zb2_some h
  obtain ⟨h, hzz12⟩ := zgeV_some h
  have hmz12 := mX1_makeIn eS11
  refine z_cV (As := [.ref v9, .int x3]) X hl hH hS mlX7_138 eu10 (kX1_makeIn (fun q h => hA q (Nat.le_trans (Nat.le_trans hS.1.1 (Nat.le_of_eq hS.2)) h)) eS11) rfl rfl (Nat.le_of_ble_eq_true rfl) ⟨rfl, rfl, Nat.le_of_ble_eq_true rfl, Nat.le_of_ble_eq_true rfl⟩ (zz_f hq hw hmz12 hzz12) dX7_buildBoth_25 (fun H locs hH hS => ?_)
  obtain ⟨hq, hw⟩ := zz_q hq hw hmz12
  have hz := hzz12
  exact z_vretZ X hH hS h hq hw dX7_buildBoth_28
theorem mX7_buildBoth {N : Nat} {zT : Nat} {T : zS} {S : zS} {z : Nat} {x0 : Nat} {x1 : Int32} {x2 : Int32} {x3 : Int32} (h : rX7_buildBoth N S z x0 x1 x2 x3 = some (T, zT)) : z ≤ zT := by
  unfold rX7_buildBoth rX7_buildBoth_0 at h
  exact (zgeV_some h).2
set_option maxRecDepth 100000 in
theorem kX7_buildBoth {N : Nat} {zT : Nat} {T : zS} {S : zS} {z : Nat} {x0 : Nat} {x1 : Int32} {x2 : Int32} {x3 : Int32} (hA0 : ∀ q : Nat, z ≤ q → A q) (h : rX7_buildBoth N S z x0 x1 x2 x3 = some (T, zT)) : Met l yX7_buildBoth [.code yX7_buildBoth cX7_buildBoth 4 none] ({ frames := 6, cells := zT - z, slots := 200 * (zT - z), locals := 139 } : Room) (zP D cy A S z [.ref x0, .int x1, .int x2, .int x3]) (zQ D cy A T zT none) (zT - z) (200 * (zT - z)) A := by
  have hm := mX7_buildBoth h
  refine z_metA (lv := [(0, .ref x0), (1, .int x1), (2, .int x2), (3, .int x3)]) (by decide) (Nat.le_of_ble_eq_true rfl) rfl ?_
  intro p e s m below meth c X hz H locs ls hH hS hl
  exact wX7_buildBoth_0 X (fun q hq => hA0 q (by rw [← hz]; exact hq)) (zz_s hm).1 (zz_s hm).2 h _ _ _ hH hS (lv_sub hl [0, 1, 2, 3] rfl)
set_option maxRecDepth 100000 in
set_option maxHeartbeats 4000000 in
theorem wX7_sameThing_53 {z : Nat} {N : Nat} {r : Int32} {T : zS} (X : zX D cy p s m meth c cX7_sameThing 2 RX7 (some .boolean))  {S : zS} {y0 : Int32} (h : rX7_sameThing_53 N S y0 = some (r, T)) : zWt D cy A p l e { frames := 1, cells := 0, slots := 0, locals := 22 } s m args below meth c z 0 0 0 0 (zQ D cy A T z (some (.int r))) S 2 53 [] [.int y0] := by
  obtain ⟨hx, hb, hml, hown, hr, hlocks, hT⟩ := id X
  intro H locs ls hH hS hl
  unfold rX7_sameThing_53 at h
  exact z_zret X hH hS h dX7_sameThing_53
set_option maxRecDepth 100000 in
set_option maxHeartbeats 4000000 in
theorem wX7_sameThing_52 {z : Nat} {N : Nat} {r : Int32} {T : zS} (X : zX D cy p s m meth c cX7_sameThing 2 RX7 (some .boolean))  {S : zS} (h : rX7_sameThing_52 N S = some (r, T)) : zWt D cy A p l e { frames := 1, cells := 0, slots := 0, locals := 22 } s m args below meth c z 0 0 0 0 (zQ D cy A T z (some (.int r))) S 2 52 [] [] := by
  obtain ⟨hx, hb, hml, hown, hr, hlocks, hT⟩ := id X
  intro H locs ls hH hS hl
  unfold rX7_sameThing_52 at h
  refine lv_iconst (v := (0 : Int32)) hx hb dX7_sameThing_52 (by decide) ?_
  exact wX7_sameThing_53 X h _ _ _ hH hS (lv_sub hl [] rfl)
set_option maxRecDepth 100000 in
set_option maxHeartbeats 4000000 in
theorem wX7_sameThing_24 {z : Nat} {N : Nat} {r : Int32} {T : zS} (X : zX D cy p s m meth c cX7_sameThing 2 RX7 (some .boolean))  {S : zS} {x0 : Nat} {x1 : Int32} (h : rX7_sameThing_24 N S x0 x1 = some (r, T)) : zWt D cy A p l e { frames := 1, cells := 0, slots := 0, locals := 22 } s m args below meth c z 0 0 0 0 (zQ D cy A T z (some (.int r))) S 2 24 [(0, .ref x0), (1, .int x1)] [] := by
  obtain ⟨hx, hb, hml, hown, hr, hlocks, hT⟩ := id X
  intro H locs ls hH hS hl
  unfold rX7_sameThing_24 at h
  refine lv_aload_n hx hb dX7_sameThing_24 rfl (lv_at hl 0 rfl) ?_
  obtain ⟨v1, ev1, h⟩ := zb_some h
  refine z_getr X flX7_33 hH ev1 dX7_sameThing_25 ?_
  obtain ⟨v2, ev2, h⟩ := zb_some h
  refine z_getr X flX7_142 hH ev2 dX7_sameThing_28 ?_
  refine lv_iload_n hx hb dX7_sameThing_31 rfl (lv_at hl 1 rfl) ?_
  obtain ⟨v3, ev3, h⟩ := zb_some h
  refine z_zald X hH ev3 dX7_sameThing_32 ?_
  refine lv_if_eq (tgt := 52) hx hb dX7_sameThing_33 (by decide) (fun c => ?_) (fun c => ?_)
  · have h := (if_pos c).symm.trans h
    exact wX7_sameThing_52 X h _ _ _ hH hS (lv_sub hl [] rfl)
  · have h := (if_neg c).symm.trans h
    refine lv_aload_n hx hb dX7_sameThing_36 rfl (lv_at hl 0 rfl) ?_
    obtain ⟨v4, ev4, h⟩ := zb_some h
    refine z_getr X flX7_37 hH ev4 dX7_sameThing_37 ?_
    obtain ⟨v5, ev5, h⟩ := zb_some h
    refine z_getr X flX7_142 hH ev5 dX7_sameThing_40 ?_
    refine lv_iload_n hx hb dX7_sameThing_43 rfl (lv_at hl 1 rfl) ?_
    obtain ⟨v6, ev6, h⟩ := zb_some h
    refine z_zald X hH ev6 dX7_sameThing_44 ?_
    refine lv_if_eq (tgt := 52) hx hb dX7_sameThing_45 (by decide) (fun c => ?_) (fun c => ?_)
    · have h := (if_pos c).symm.trans h
      exact wX7_sameThing_52 X h _ _ _ hH hS (lv_sub hl [] rfl)
    · have h := (if_neg c).symm.trans h
      refine lv_iconst (v := (1 : Int32)) hx hb dX7_sameThing_48 (by decide) ?_
      refine lv_goto (tgt := 53) hx hb dX7_sameThing_49 (by decide) ?_
      exact wX7_sameThing_53 X h _ _ _ hH hS (lv_sub hl [] rfl)
set_option maxRecDepth 100000 in
set_option maxHeartbeats 4000000 in
theorem wX7_sameThing_0 {z : Nat} {N : Nat} {r : Int32} {T : zS} (X : zX D cy p s m meth c cX7_sameThing 2 RX7 (some .boolean))  {S : zS} {x0 : Nat} {x1 : Int32} (h : rX7_sameThing_0 N S x0 x1 = some (r, T)) : zWt D cy A p l e { frames := 1, cells := 0, slots := 0, locals := 22 } s m args below meth c z 0 0 0 0 (zQ D cy A T z (some (.int r))) S 2 0 [(0, .ref x0), (1, .int x1)] [] := by
  obtain ⟨hx, hb, hml, hown, hr, hlocks, hT⟩ := id X
  intro H locs ls hH hS hl
  unfold rX7_sameThing_0 at h
  refine lv_aload_n hx hb dX7_sameThing_0 rfl (lv_at hl 0 rfl) ?_
  obtain ⟨v7, ev7, h⟩ := zb_some h
  refine z_getr X flX7_33 hH ev7 dX7_sameThing_1 ?_
  obtain ⟨v8, ev8, h⟩ := zb_some h
  refine z_getr X flX7_142 hH ev8 dX7_sameThing_4 ?_
  refine lv_iload_n hx hb dX7_sameThing_7 rfl (lv_at hl 1 rfl) ?_
  obtain ⟨v9, ev9, h⟩ := zb_some h
  refine z_zald X hH ev9 dX7_sameThing_8 ?_
  refine lv_if_ne (tgt := 24) hx hb dX7_sameThing_9 (by decide) (fun c => ?_) (fun c => ?_)
  · have h := (if_neg c).symm.trans h
    exact wX7_sameThing_24 X h _ _ _ hH hS (lv_sub hl [0, 1] rfl)
  · have h := (if_pos c).symm.trans h
    refine lv_aload_n hx hb dX7_sameThing_12 rfl (lv_at hl 0 rfl) ?_
    obtain ⟨v10, ev10, h⟩ := zb_some h
    refine z_getr X flX7_37 hH ev10 dX7_sameThing_13 ?_
    obtain ⟨v11, ev11, h⟩ := zb_some h
    refine z_getr X flX7_142 hH ev11 dX7_sameThing_16 ?_
    refine lv_iload_n hx hb dX7_sameThing_19 rfl (lv_at hl 1 rfl) ?_
    obtain ⟨v12, ev12, h⟩ := zb_some h
    refine z_zald X hH ev12 dX7_sameThing_20 ?_
    refine lv_if_eq (tgt := 54) hx hb dX7_sameThing_21 (by decide) (fun c => ?_) (fun c => ?_)
    · have h := (if_pos c).symm.trans h
      refine lv_aload_n hx hb dX7_sameThing_54 rfl (lv_at hl 0 rfl) ?_
      obtain ⟨v13, ev13, h⟩ := zb_some h
      refine z_getr X flX7_33 hH ev13 dX7_sameThing_55 ?_
      obtain ⟨v14, ev14, h⟩ := zb_some h
      refine z_getr X flX7_146 hH ev14 dX7_sameThing_58 ?_
      refine lv_iload_n hx hb dX7_sameThing_61 rfl (lv_at hl 1 rfl) ?_
      obtain ⟨v15, ev15, h⟩ := zb_some h
      refine z_aald X hH 12 (by decide) ev15 dX7_sameThing_62 ?_
      refine lv_aload_n hx hb dX7_sameThing_63 rfl (lv_at hl 0 rfl) ?_
      obtain ⟨v16, ev16, h⟩ := zb_some h
      refine z_getr X flX7_37 hH ev16 dX7_sameThing_64 ?_
      obtain ⟨v17, ev17, h⟩ := zb_some h
      refine z_getr X flX7_146 hH ev17 dX7_sameThing_67 ?_
      refine lv_iload_n hx hb dX7_sameThing_70 rfl (lv_at hl 1 rfl) ?_
      obtain ⟨v18, ev18, h⟩ := zb_some h
      refine z_aald X hH 12 (by decide) ev18 dX7_sameThing_71 ?_
      obtain ⟨u19, eu19, h⟩ := zb_some h
      obtain ⟨v21, S20, eS20, h⟩ := zb2_some h
      refine z_cV (As := [.ref v18]) X hl hH hS mlX7_248 eu19 (kX5_isSameAs eS20) rfl rfl (Nat.le_of_ble_eq_true rfl) ⟨rfl, rfl, Nat.le_of_ble_eq_true rfl, Nat.le_of_ble_eq_true rfl⟩ ⟨Nat.le_refl _, Nat.le_refl _⟩ dX7_sameThing_72 (fun H locs hH hS => ?_)
      exact z_zret X hH hS h dX7_sameThing_75
    · have h := (if_neg c).symm.trans h
      exact wX7_sameThing_24 X h _ _ _ hH hS (lv_sub hl [0, 1] rfl)
set_option maxRecDepth 100000 in
theorem kX7_sameThing {N : Nat} {r : Int32} {T : zS} {S : zS} {z : Nat} {x0 : Nat} {x1 : Int32} (h : rX7_sameThing N S x0 x1 = some (r, T)) : Met l yX7_sameThing [.code yX7_sameThing cX7_sameThing 2 (some .boolean)] { frames := 1, cells := 0, slots := 0, locals := 22 } (zP D cy A S z [.ref x0, .int x1]) (zQ D cy A T z (some (.int r))) 0 0 A := by
  refine z_met (lv := [(0, .ref x0), (1, .int x1)]) (by decide) (Nat.le_of_ble_eq_true rfl) rfl ?_
  intro p e s m below meth c X H locs ls hH hS hl
  exact wX7_sameThing_0 X h _ _ _ hH hS (lv_sub hl [0, 1] rfl)
set_option maxRecDepth 100000 in
set_option maxHeartbeats 4000000 in
theorem wX7_alike_38 {N : Nat} {MC MS zT : Nat} {r : Int32} {T : zS} (X : zX D cy p s m meth c cX7_alike 4 RX7 (some .int)) (hA : ∀ q : Nat, s.heap.size ≤ q → A q)  {S : zS} {z : Nat} {y0 : Int32} {q w : Nat} (hq : q + zT ≤ MC + z) (hw : w + 200 * zT ≤ MS + 200 * z) (h : rX7_alike_38 N S z y0 = some (r, T, zT)) : zWt D cy A p l e ({ frames := 7, cells := MC, slots := MS, locals := 162 } : Room) s m args below meth c z q w MC MS (zQ D cy A T zT (some (.int r))) S 4 38 [] [.int y0] := by
  obtain ⟨hx, hb, hml, hown, hr, hlocks, hT⟩ := id X
  intro H locs ls hH hS hl
  unfold rX7_alike_38 at h
  obtain ⟨h, hz⟩ := zgeI_some h
  exact z_iretZ X hH hS h hq hw dX7_alike_38
set_option maxRecDepth 100000 in
set_option maxHeartbeats 4000000 in
theorem wX7_alike_16 {N : Nat} {MC MS zT : Nat} {r : Int32} {T : zS} (X : zX D cy p s m meth c cX7_alike 4 RX7 (some .int)) (hA : ∀ q : Nat, s.heap.size ≤ q → A q)  {S : zS} {z : Nat} {q w : Nat} (hq : q + zT ≤ MC + z) (hw : w + 200 * zT ≤ MS + 200 * z) (h : rX7_alike_16 N S z = some (r, T, zT)) : zWt D cy A p l e ({ frames := 7, cells := MC, slots := MS, locals := 162 } : Room) s m args below meth c z q w MC MS (zQ D cy A T zT (some (.int r))) S 4 16 [] [] := by
  obtain ⟨hx, hb, hml, hown, hr, hlocks, hT⟩ := id X
  intro H locs ls hH hS hl
  unfold rX7_alike_16 at h
  obtain ⟨h, hz⟩ := zgeI_some h
  refine lv_iconst (v := (-1 : Int32)) hx hb dX7_alike_16 (by decide) ?_
  exact z_iretZ X hH hS h hq hw dX7_alike_17
set_option maxRecDepth 100000 in
set_option maxHeartbeats 4000000 in
theorem wX7_alike_0 {N : Nat} {MC MS zT : Nat} {r : Int32} {T : zS} (X : zX D cy p s m meth c cX7_alike 4 RX7 (some .int)) (hA : ∀ q : Nat, s.heap.size ≤ q → A q)  {S : zS} {z : Nat} {x0 : Nat} {x1 : Int32} {x2 : Int32} {x3 : Int32} {q w : Nat} (hq : q + zT ≤ MC + z) (hw : w + 200 * zT ≤ MS + 200 * z) (h : rX7_alike_0 N S z x0 x1 x2 x3 = some (r, T, zT)) : zWt D cy A p l e ({ frames := 7, cells := MC, slots := MS, locals := 162 } : Room) s m args below meth c z q w MC MS (zQ D cy A T zT (some (.int r))) S 4 0 [(0, .ref x0), (1, .int x1), (2, .int x2), (3, .int x3)] [] := by
  obtain ⟨hx, hb, hml, hown, hr, hlocks, hT⟩ := id X
  intro H locs ls hH hS hl
  unfold rX7_alike_0 at h
  obtain ⟨h, hz⟩ := zgeI_some h
  refine lv_iload_n hx hb dX7_alike_0 rfl (lv_at hl 1 rfl) ?_
  refine lv_iload_n hx hb dX7_alike_1 rfl (lv_at hl 2 rfl) ?_
  obtain ⟨v2, S1, eS1, h⟩ := zb2_some h
  refine z_cS (As := [.int x1, .int x2]) X hl hH hS mlX7_99 (kX7_areRooms eS1) rfl rfl (Nat.le_of_ble_eq_true rfl) ⟨rfl, rfl, Nat.le_of_ble_eq_true rfl, Nat.le_of_ble_eq_true rfl⟩ (zz_0 hq hw hz) dX7_alike_2 (fun H locs hH hS => ?_)
  refine lv_if_eq (tgt := 16) hx hb dX7_alike_5 (by decide) (fun c => ?_) (fun c => ?_)
  · have h := (if_pos c).symm.trans h
    exact wX7_alike_16 X hA hq hw h _ _ _ hH hS (lv_sub hl [] rfl)
  · have h := (if_neg c).symm.trans h
    refine lv_aload_n hx hb dX7_alike_8 rfl (lv_at hl 0 rfl) ?_
    refine lv_iload_n hx hb dX7_alike_9 rfl (lv_at hl 3 rfl) ?_
    obtain ⟨u3, eu3, h⟩ := zb_some h
    obtain ⟨v5, S4, eS4, h⟩ := zb2_some h
    refine z_cV (As := [.int x3]) X hl hH hS mlX7_122 eu3 (kX7_isStep eS4) rfl rfl (Nat.le_of_ble_eq_true rfl) ⟨rfl, rfl, Nat.le_of_ble_eq_true rfl, Nat.le_of_ble_eq_true rfl⟩ (zz_0 hq hw hz) dX7_alike_10 (fun H locs hH hS => ?_)
    refine lv_if_ne (tgt := 18) hx hb dX7_alike_13 (by decide) (fun c => ?_) (fun c => ?_)
    · have h := (if_neg c).symm.trans h
      refine lv_aload_n hx hb dX7_alike_18 rfl (lv_at hl 0 rfl) ?_
      refine lv_iload_n hx hb dX7_alike_19 rfl (lv_at hl 1 rfl) ?_
      refine lv_iload_n hx hb dX7_alike_20 rfl (lv_at hl 2 rfl) ?_
      refine lv_iload_n hx hb dX7_alike_21 rfl (lv_at hl 3 rfl) ?_
      obtain ⟨u6, eu6, h⟩ := zb_some h
      obtain ⟨S7, z8, eS7, h⟩ := zb2_some h
      obtain ⟨h, hzz8⟩ := zgeI_some h
      have hmz8 := mX7_buildBoth eS7
      refine z_cV (As := [.int x1, .int x2, .int x3]) X hl hH hS mlX7_178 eu6 (kX7_buildBoth (fun q h => hA q (Nat.le_trans (Nat.le_trans hS.1.1 (Nat.le_of_eq hS.2)) h)) eS7) rfl rfl (Nat.le_of_ble_eq_true rfl) ⟨rfl, rfl, Nat.le_of_ble_eq_true rfl, Nat.le_of_ble_eq_true rfl⟩ (zz_f hq hw hmz8 hzz8) dX7_alike_22 (fun H locs hH hS => ?_)
      obtain ⟨hq, hw⟩ := zz_q hq hw hmz8
      have hz := hzz8
      refine lv_aload_n hx hb dX7_alike_25 rfl (lv_at hl 0 rfl) ?_
      refine lv_iload_n hx hb dX7_alike_26 rfl (lv_at hl 3 rfl) ?_
      obtain ⟨u9, eu9, h⟩ := zb_some h
      obtain ⟨v11, S10, eS10, h⟩ := zb2_some h
      refine z_cV (As := [.int x3]) X hl hH hS mlX7_182 eu9 (kX7_sameThing eS10) rfl rfl (Nat.le_of_ble_eq_true rfl) ⟨rfl, rfl, Nat.le_of_ble_eq_true rfl, Nat.le_of_ble_eq_true rfl⟩ (zz_0 hq hw hz) dX7_alike_27 (fun H locs hH hS => ?_)
      refine lv_if_eq (tgt := 37) hx hb dX7_alike_30 (by decide) (fun c => ?_) (fun c => ?_)
      · have h := (if_pos c).symm.trans h
        refine lv_iconst (v := (0 : Int32)) hx hb dX7_alike_37 (by decide) ?_
        exact wX7_alike_38 X hA hq hw h _ _ _ hH hS (lv_sub hl [] rfl)
      · have h := (if_neg c).symm.trans h
        refine lv_iconst (v := (1 : Int32)) hx hb dX7_alike_33 (by decide) ?_
        refine lv_goto (tgt := 38) hx hb dX7_alike_34 (by decide) ?_
        exact wX7_alike_38 X hA hq hw h _ _ _ hH hS (lv_sub hl [] rfl)
    · have h := (if_pos c).symm.trans h
      exact wX7_alike_16 X hA hq hw h _ _ _ hH hS (lv_sub hl [] rfl)
theorem mX7_alike {N : Nat} {zT : Nat} {r : Int32} {T : zS} {S : zS} {z : Nat} {x0 : Nat} {x1 : Int32} {x2 : Int32} {x3 : Int32} (h : rX7_alike N S z x0 x1 x2 x3 = some (r, T, zT)) : z ≤ zT := by
  unfold rX7_alike rX7_alike_0 at h
  exact (zgeI_some h).2
set_option maxRecDepth 100000 in
theorem kX7_alike {N : Nat} {zT : Nat} {r : Int32} {T : zS} {S : zS} {z : Nat} {x0 : Nat} {x1 : Int32} {x2 : Int32} {x3 : Int32} (hA0 : ∀ q : Nat, z ≤ q → A q) (h : rX7_alike N S z x0 x1 x2 x3 = some (r, T, zT)) : Met l yX7_alike [.code yX7_alike cX7_alike 4 (some .int)] ({ frames := 7, cells := zT - z, slots := 200 * (zT - z), locals := 162 } : Room) (zP D cy A S z [.ref x0, .int x1, .int x2, .int x3]) (zQ D cy A T zT (some (.int r))) (zT - z) (200 * (zT - z)) A := by
  have hm := mX7_alike h
  refine z_metA (lv := [(0, .ref x0), (1, .int x1), (2, .int x2), (3, .int x3)]) (by decide) (Nat.le_of_ble_eq_true rfl) rfl ?_
  intro p e s m below meth c X hz H locs ls hH hS hl
  exact wX7_alike_0 X (fun q hq => hA0 q (by rw [← hz]; exact hq)) (zz_s hm).1 (zz_s hm).2 h _ _ _ hH hS (lv_sub hl [0, 1, 2, 3] rfl)
set_option maxRecDepth 100000 in
set_option maxHeartbeats 4000000 in
theorem wX7_changes_49 {N : Nat} {MC MS zT : Nat} {r : Int32} {T : zS} (X : zX D cy p s m meth c cX7_changes 4 RX7 (some .int)) (hA : ∀ q : Nat, s.heap.size ≤ q → A q)  {S : zS} {z : Nat} {q w : Nat} (hq : q + zT ≤ MC + z) (hw : w + 200 * zT ≤ MS + 200 * z) (h : rX7_changes_49 N S z = some (r, T, zT)) : zWt D cy A p l e ({ frames := 7, cells := MC, slots := MS, locals := 162 } : Room) s m args below meth c z q w MC MS (zQ D cy A T zT (some (.int r))) S 4 49 [] [] := by
  obtain ⟨hx, hb, hml, hown, hr, hlocks, hT⟩ := id X
  intro H locs ls hH hS hl
  unfold rX7_changes_49 at h
  obtain ⟨h, hz⟩ := zgeI_some h
  refine lv_bipush (v := (-2 : Int32)) hx hb dX7_changes_49 (by decide) ?_
  exact z_iretZ X hH hS h hq hw dX7_changes_51
set_option maxRecDepth 100000 in
set_option maxHeartbeats 4000000 in
theorem wX7_changes_16 {N : Nat} {MC MS zT : Nat} {r : Int32} {T : zS} (X : zX D cy p s m meth c cX7_changes 4 RX7 (some .int)) (hA : ∀ q : Nat, s.heap.size ≤ q → A q)  {S : zS} {z : Nat} {q w : Nat} (hq : q + zT ≤ MC + z) (hw : w + 200 * zT ≤ MS + 200 * z) (h : rX7_changes_16 N S z = some (r, T, zT)) : zWt D cy A p l e ({ frames := 7, cells := MC, slots := MS, locals := 162 } : Room) s m args below meth c z q w MC MS (zQ D cy A T zT (some (.int r))) S 4 16 [] [] := by
  obtain ⟨hx, hb, hml, hown, hr, hlocks, hT⟩ := id X
  intro H locs ls hH hS hl
  unfold rX7_changes_16 at h
  obtain ⟨h, hz⟩ := zgeI_some h
  refine lv_iconst (v := (-1 : Int32)) hx hb dX7_changes_16 (by decide) ?_
  exact z_iretZ X hH hS h hq hw dX7_changes_17
set_option maxRecDepth 100000 in
set_option maxHeartbeats 4000000 in
theorem wX7_changes_0 {N : Nat} {MC MS zT : Nat} {r : Int32} {T : zS} (X : zX D cy p s m meth c cX7_changes 4 RX7 (some .int)) (hA : ∀ q : Nat, s.heap.size ≤ q → A q)  {S : zS} {z : Nat} {x0 : Nat} {x1 : Int32} {x2 : Int32} {x3 : Int32} {q w : Nat} (hq : q + zT ≤ MC + z) (hw : w + 200 * zT ≤ MS + 200 * z) (h : rX7_changes_0 N S z x0 x1 x2 x3 = some (r, T, zT)) : zWt D cy A p l e ({ frames := 7, cells := MC, slots := MS, locals := 162 } : Room) s m args below meth c z q w MC MS (zQ D cy A T zT (some (.int r))) S 4 0 [(0, .ref x0), (1, .int x1), (2, .int x2), (3, .int x3)] [] := by
  obtain ⟨hx, hb, hml, hown, hr, hlocks, hT⟩ := id X
  intro H locs ls hH hS hl
  unfold rX7_changes_0 at h
  obtain ⟨h, hz⟩ := zgeI_some h
  refine lv_iload_n hx hb dX7_changes_0 rfl (lv_at hl 1 rfl) ?_
  refine lv_iload_n hx hb dX7_changes_1 rfl (lv_at hl 2 rfl) ?_
  obtain ⟨v2, S1, eS1, h⟩ := zb2_some h
  refine z_cS (As := [.int x1, .int x2]) X hl hH hS mlX7_99 (kX7_areRooms eS1) rfl rfl (Nat.le_of_ble_eq_true rfl) ⟨rfl, rfl, Nat.le_of_ble_eq_true rfl, Nat.le_of_ble_eq_true rfl⟩ (zz_0 hq hw hz) dX7_changes_2 (fun H locs hH hS => ?_)
  refine lv_if_eq (tgt := 16) hx hb dX7_changes_5 (by decide) (fun c => ?_) (fun c => ?_)
  · have h := (if_pos c).symm.trans h
    exact wX7_changes_16 X hA hq hw h _ _ _ hH hS (lv_sub hl [] rfl)
  · have h := (if_neg c).symm.trans h
    refine lv_aload_n hx hb dX7_changes_8 rfl (lv_at hl 0 rfl) ?_
    refine lv_iload_n hx hb dX7_changes_9 rfl (lv_at hl 3 rfl) ?_
    obtain ⟨u3, eu3, h⟩ := zb_some h
    obtain ⟨v5, S4, eS4, h⟩ := zb2_some h
    refine z_cV (As := [.int x3]) X hl hH hS mlX7_122 eu3 (kX7_isStep eS4) rfl rfl (Nat.le_of_ble_eq_true rfl) ⟨rfl, rfl, Nat.le_of_ble_eq_true rfl, Nat.le_of_ble_eq_true rfl⟩ (zz_0 hq hw hz) dX7_changes_10 (fun H locs hH hS => ?_)
    refine lv_if_ne (tgt := 18) hx hb dX7_changes_13 (by decide) (fun c => ?_) (fun c => ?_)
    · have h := (if_neg c).symm.trans h
      refine lv_aload_n hx hb dX7_changes_18 rfl (lv_at hl 0 rfl) ?_
      refine lv_iload_n hx hb dX7_changes_19 rfl (lv_at hl 1 rfl) ?_
      refine lv_iload_n hx hb dX7_changes_20 rfl (lv_at hl 2 rfl) ?_
      refine lv_iload_n hx hb dX7_changes_21 rfl (lv_at hl 3 rfl) ?_
      obtain ⟨u6, eu6, h⟩ := zb_some h
      obtain ⟨S7, z8, eS7, h⟩ := zb2_some h
      obtain ⟨h, hzz8⟩ := zgeI_some h
      have hmz8 := mX7_buildBoth eS7
      refine z_cV (As := [.int x1, .int x2, .int x3]) X hl hH hS mlX7_178 eu6 (kX7_buildBoth (fun q h => hA q (Nat.le_trans (Nat.le_trans hS.1.1 (Nat.le_of_eq hS.2)) h)) eS7) rfl rfl (Nat.le_of_ble_eq_true rfl) ⟨rfl, rfl, Nat.le_of_ble_eq_true rfl, Nat.le_of_ble_eq_true rfl⟩ (zz_f hq hw hmz8 hzz8) dX7_changes_22 (fun H locs hH hS => ?_)
      obtain ⟨hq, hw⟩ := zz_q hq hw hmz8
      have hz := hzz8
      refine lv_aload_n hx hb dX7_changes_25 rfl (lv_at hl 0 rfl) ?_
      obtain ⟨v9, ev9, h⟩ := zb_some h
      refine z_getr X flX7_33 hH ev9 dX7_changes_26 ?_
      obtain ⟨v10, ev10, h⟩ := zb_some h
      refine z_getr X flX7_142 hH ev10 dX7_changes_29 ?_
      refine lv_iload_n hx hb dX7_changes_32 rfl (lv_at hl 3 rfl) ?_
      obtain ⟨v11, ev11, h⟩ := zb_some h
      refine z_zald X hH ev11 dX7_changes_33 ?_
      refine lv_if_ne (tgt := 49) hx hb dX7_changes_34 (by decide) (fun c => ?_) (fun c => ?_)
      · have h := (if_neg c).symm.trans h
        exact wX7_changes_49 X hA hq hw h _ _ _ hH hS (lv_sub hl [] rfl)
      · have h := (if_pos c).symm.trans h
        refine lv_aload_n hx hb dX7_changes_37 rfl (lv_at hl 0 rfl) ?_
        obtain ⟨v12, ev12, h⟩ := zb_some h
        refine z_getr X flX7_37 hH ev12 dX7_changes_38 ?_
        obtain ⟨v13, ev13, h⟩ := zb_some h
        refine z_getr X flX7_142 hH ev13 dX7_changes_41 ?_
        refine lv_iload_n hx hb dX7_changes_44 rfl (lv_at hl 3 rfl) ?_
        obtain ⟨v14, ev14, h⟩ := zb_some h
        refine z_zald X hH ev14 dX7_changes_45 ?_
        refine lv_if_eq (tgt := 52) hx hb dX7_changes_46 (by decide) (fun c => ?_) (fun c => ?_)
        · have h := (if_pos c).symm.trans h
          refine lv_aload_n hx hb dX7_changes_52 rfl (lv_at hl 0 rfl) ?_
          obtain ⟨v15, ev15, h⟩ := zb_some h
          refine z_getr X flX7_43 hH ev15 dX7_changes_53 ?_
          refine lv_aload_n hx hb dX7_changes_56 rfl (lv_at hl 0 rfl) ?_
          obtain ⟨v16, ev16, h⟩ := zb_some h
          refine z_getr X flX7_33 hH ev16 dX7_changes_57 ?_
          obtain ⟨v17, ev17, h⟩ := zb_some h
          refine z_getr X flX7_146 hH ev17 dX7_changes_60 ?_
          refine lv_iload_n hx hb dX7_changes_63 rfl (lv_at hl 3 rfl) ?_
          obtain ⟨v18, ev18, h⟩ := zb_some h
          refine z_aald X hH 12 (by decide) ev18 dX7_changes_64 ?_
          refine lv_aload_n hx hb dX7_changes_65 rfl (lv_at hl 0 rfl) ?_
          obtain ⟨v19, ev19, h⟩ := zb_some h
          refine z_getr X flX7_37 hH ev19 dX7_changes_66 ?_
          obtain ⟨v20, ev20, h⟩ := zb_some h
          refine z_getr X flX7_146 hH ev20 dX7_changes_69 ?_
          refine lv_iload_n hx hb dX7_changes_72 rfl (lv_at hl 3 rfl) ?_
          obtain ⟨v21, ev21, h⟩ := zb_some h
          refine z_aald X hH 12 (by decide) ev21 dX7_changes_73 ?_
          obtain ⟨u22, eu22, h⟩ := zb_some h
          obtain ⟨S23, eS23, h⟩ := zb_some h
          refine z_cV (As := [.ref v18, .ref v21]) X hl hH hS mlX7_185 eu22 (kX0_lay eS23) rfl rfl (Nat.le_of_ble_eq_true rfl) ⟨rfl, rfl, Nat.le_of_ble_eq_true rfl, Nat.le_of_ble_eq_true rfl⟩ (zz_0 hq hw hz) dX7_changes_74 (fun H locs hH hS => ?_)
          refine lv_aload_n hx hb dX7_changes_77 rfl (lv_at hl 0 rfl) ?_
          obtain ⟨v24, ev24, h⟩ := zb_some h
          refine z_getr X flX7_43 hH ev24 dX7_changes_78 ?_
          obtain ⟨v25, ev25, h⟩ := zb_some h
          refine z_geti X flX7_189 hH ev25 dX7_changes_81 ?_
          exact z_iretZ X hH hS h hq hw dX7_changes_84
        · have h := (if_neg c).symm.trans h
          exact wX7_changes_49 X hA hq hw h _ _ _ hH hS (lv_sub hl [] rfl)
    · have h := (if_pos c).symm.trans h
      exact wX7_changes_16 X hA hq hw h _ _ _ hH hS (lv_sub hl [] rfl)
theorem mX7_changes {N : Nat} {zT : Nat} {r : Int32} {T : zS} {S : zS} {z : Nat} {x0 : Nat} {x1 : Int32} {x2 : Int32} {x3 : Int32} (h : rX7_changes N S z x0 x1 x2 x3 = some (r, T, zT)) : z ≤ zT := by
  unfold rX7_changes rX7_changes_0 at h
  exact (zgeI_some h).2
set_option maxRecDepth 100000 in
theorem kX7_changes {N : Nat} {zT : Nat} {r : Int32} {T : zS} {S : zS} {z : Nat} {x0 : Nat} {x1 : Int32} {x2 : Int32} {x3 : Int32} (hA0 : ∀ q : Nat, z ≤ q → A q) (h : rX7_changes N S z x0 x1 x2 x3 = some (r, T, zT)) : Met l yX7_changes [.code yX7_changes cX7_changes 4 (some .int)] ({ frames := 7, cells := zT - z, slots := 200 * (zT - z), locals := 162 } : Room) (zP D cy A S z [.ref x0, .int x1, .int x2, .int x3]) (zQ D cy A T zT (some (.int r))) (zT - z) (200 * (zT - z)) A := by
  have hm := mX7_changes h
  refine z_metA (lv := [(0, .ref x0), (1, .int x1), (2, .int x2), (3, .int x3)]) (by decide) (Nat.le_of_ble_eq_true rfl) rfl ?_
  intro p e s m below meth c X hz H locs ls hH hS hl
  exact wX7_changes_0 X (fun q hq => hA0 q (by rw [← hz]; exact hq)) (zz_s hm).1 (zz_s hm).2 h _ _ _ hH hS (lv_sub hl [0, 1, 2, 3] rfl)
set_option maxRecDepth 100000 in
set_option maxHeartbeats 4000000 in
theorem wX7_change_66 {z : Nat} {N : Nat} {r : Int32} {T : zS} (X : zX D cy p s m meth c cX7_change 3 RX7 (some .int))  {S : zS} {y0 : Int32} (h : rX7_change_66 N S y0 = some (r, T)) : zWt D cy A p l e { frames := 0, cells := 0, slots := 0, locals := 0 } s m args below meth c z 0 0 0 0 (zQ D cy A T z (some (.int r))) S 3 66 [] [.int y0] := by
  obtain ⟨hx, hb, hml, hown, hr, hlocks, hT⟩ := id X
  intro H locs ls hH hS hl
  unfold rX7_change_66 at h
  exact z_iret X hH hS h dX7_change_66
set_option maxRecDepth 100000 in
set_option maxHeartbeats 4000000 in
theorem wX7_change_24 {z : Nat} {N : Nat} {r : Int32} {T : zS} (X : zX D cy p s m meth c cX7_change 3 RX7 (some .int))  {S : zS} (h : rX7_change_24 N S = some (r, T)) : zWt D cy A p l e { frames := 0, cells := 0, slots := 0, locals := 0 } s m args below meth c z 0 0 0 0 (zQ D cy A T z (some (.int r))) S 3 24 [] [] := by
  obtain ⟨hx, hb, hml, hown, hr, hlocks, hT⟩ := id X
  intro H locs ls hH hS hl
  unfold rX7_change_24 at h
  refine lv_iconst (v := (-1 : Int32)) hx hb dX7_change_24 (by decide) ?_
  exact z_iret X hH hS h dX7_change_25
set_option maxRecDepth 100000 in
set_option maxHeartbeats 4000000 in
theorem wX7_change_0 {z : Nat} {N : Nat} {r : Int32} {T : zS} (X : zX D cy p s m meth c cX7_change 3 RX7 (some .int))  {S : zS} {x0 : Nat} {x1 : Int32} {x2 : Int32} (h : rX7_change_0 N S x0 x1 x2 = some (r, T)) : zWt D cy A p l e { frames := 0, cells := 0, slots := 0, locals := 0 } s m args below meth c z 0 0 0 0 (zQ D cy A T z (some (.int r))) S 3 0 [(0, .ref x0), (1, .int x1), (2, .int x2)] [] := by
  obtain ⟨hx, hb, hml, hown, hr, hlocks, hT⟩ := id X
  intro H locs ls hH hS hl
  unfold rX7_change_0 at h
  refine lv_iload_n hx hb dX7_change_0 rfl (lv_at hl 1 rfl) ?_
  refine lv_if_lt (tgt := 24) hx hb dX7_change_1 (by decide) (fun c => ?_) (fun c => ?_)
  · have h := (if_pos c).symm.trans h
    exact wX7_change_24 X h _ _ _ hH hS (lv_sub hl [] rfl)
  · have h := (if_neg c).symm.trans h
    refine lv_iload_n hx hb dX7_change_4 rfl (lv_at hl 1 rfl) ?_
    refine lv_aload_n hx hb dX7_change_5 rfl (lv_at hl 0 rfl) ?_
    obtain ⟨v1, ev1, h⟩ := zb_some h
    refine z_getr X flX7_43 hH ev1 dX7_change_6 ?_
    obtain ⟨v2, ev2, h⟩ := zb_some h
    refine z_geti X flX7_189 hH ev2 dX7_change_9 ?_
    refine lv_icmp_ge (tgt := 24) hx hb dX7_change_12 (by decide) (fun c => ?_) (fun c => ?_)
    · have h := (if_pos c).symm.trans h
      exact wX7_change_24 X h _ _ _ hH hS (lv_sub hl [] rfl)
    · have h := (if_neg c).symm.trans h
      refine lv_iload_n hx hb dX7_change_15 rfl (lv_at hl 2 rfl) ?_
      refine lv_if_lt (tgt := 24) hx hb dX7_change_16 (by decide) (fun c => ?_) (fun c => ?_)
      · have h := (if_pos c).symm.trans h
        exact wX7_change_24 X h _ _ _ hH hS (lv_sub hl [] rfl)
      · have h := (if_neg c).symm.trans h
        refine lv_iload_n hx hb dX7_change_19 rfl (lv_at hl 2 rfl) ?_
        refine lv_iconst (v := (2 : Int32)) hx hb dX7_change_20 (by decide) ?_
        refine lv_icmp_le (tgt := 26) hx hb dX7_change_21 (by decide) (fun c => ?_) (fun c => ?_)
        · have h := (if_pos c).symm.trans h
          refine lv_iload_n hx hb dX7_change_26 rfl (lv_at hl 2 rfl) ?_
          refine lv_if_ne (tgt := 40) hx hb dX7_change_27 (by decide) (fun c => ?_) (fun c => ?_)
          · have h := (if_neg c).symm.trans h
            refine lv_iload_n hx hb dX7_change_40 rfl (lv_at hl 2 rfl) ?_
            refine lv_iconst (v := (1 : Int32)) hx hb dX7_change_41 (by decide) ?_
            refine lv_icmp_ne (tgt := 57) hx hb dX7_change_42 (by decide) (fun c => ?_) (fun c => ?_)
            · have h := (if_neg c).symm.trans h
              refine lv_aload_n hx hb dX7_change_57 rfl (lv_at hl 0 rfl) ?_
              obtain ⟨v3, ev3, h⟩ := zb_some h
              refine z_getr X flX7_43 hH ev3 dX7_change_58 ?_
              obtain ⟨v4, ev4, h⟩ := zb_some h
              refine z_getr X flX7_196 hH ev4 dX7_change_61 ?_
              refine lv_iload_n hx hb dX7_change_64 rfl (lv_at hl 1 rfl) ?_
              obtain ⟨v5, ev5, h⟩ := zb_some h
              refine z_iald X hH ev5 dX7_change_65 ?_
              exact wX7_change_66 X h _ _ _ hH hS (lv_sub hl [] rfl)
            · have h := (if_pos c).symm.trans h
              refine lv_aload_n hx hb dX7_change_45 rfl (lv_at hl 0 rfl) ?_
              obtain ⟨v6, ev6, h⟩ := zb_some h
              refine z_getr X flX7_43 hH ev6 dX7_change_46 ?_
              obtain ⟨v7, ev7, h⟩ := zb_some h
              refine z_getr X flX7_193 hH ev7 dX7_change_49 ?_
              refine lv_iload_n hx hb dX7_change_52 rfl (lv_at hl 1 rfl) ?_
              obtain ⟨v8, ev8, h⟩ := zb_some h
              refine z_iald X hH ev8 dX7_change_53 ?_
              refine lv_goto (tgt := 66) hx hb dX7_change_54 (by decide) ?_
              exact wX7_change_66 X h _ _ _ hH hS (lv_sub hl [] rfl)
          · have h := (if_pos c).symm.trans h
            refine lv_aload_n hx hb dX7_change_30 rfl (lv_at hl 0 rfl) ?_
            obtain ⟨v9, ev9, h⟩ := zb_some h
            refine z_getr X flX7_43 hH ev9 dX7_change_31 ?_
            obtain ⟨v10, ev10, h⟩ := zb_some h
            refine z_getr X flX7_190 hH ev10 dX7_change_34 ?_
            refine lv_iload_n hx hb dX7_change_37 rfl (lv_at hl 1 rfl) ?_
            obtain ⟨v11, ev11, h⟩ := zb_some h
            refine z_iald X hH ev11 dX7_change_38 ?_
            exact z_iret X hH hS h dX7_change_39
        · have h := (if_neg c).symm.trans h
          exact wX7_change_24 X h _ _ _ hH hS (lv_sub hl [] rfl)
set_option maxRecDepth 100000 in
theorem kX7_change {N : Nat} {r : Int32} {T : zS} {S : zS} {z : Nat} {x0 : Nat} {x1 : Int32} {x2 : Int32} (h : rX7_change N S x0 x1 x2 = some (r, T)) : Met l yX7_change [.code yX7_change cX7_change 3 (some .int)] { frames := 0, cells := 0, slots := 0, locals := 0 } (zP D cy A S z [.ref x0, .int x1, .int x2]) (zQ D cy A T z (some (.int r))) 0 0 A := by
  refine z_met (lv := [(0, .ref x0), (1, .int x1), (2, .int x2)]) (by decide) (Nat.le_of_ble_eq_true rfl) rfl ?_
  intro p e s m below meth c X H locs ls hH hS hl
  exact wX7_change_0 X h _ _ _ hH hS (lv_sub hl [0, 1, 2] rfl)
set_option maxRecDepth 100000 in
set_option maxHeartbeats 4000000 in
theorem wX7_cause_74 {N : Nat} {MC MS zT : Nat} {r : Int32} {T : zS} (X : zX D cy p s m meth c cX7_cause 5 RX7 (some .int)) (hA : ∀ q : Nat, s.heap.size ≤ q → A q) {K39 : zS × Nat × Nat × Int32 × Int32 → Option (Int32 × zS × Nat)} (hK39 : ∀ (S : zS) (z : Nat) (x0 : Nat) (x3 : Int32) (x4 : Int32) (q : Nat) (w : Nat), q + zT ≤ MC + z → w + 200 * zT ≤ MS + 200 * z → K39 (S, z, x0, x3, x4) = some (r, T, zT) → zWt D cy A p l e ({ frames := 7, cells := MC, slots := MS, locals := 162 } : Room) s m args below meth c z q w MC MS (zQ D cy A T zT (some (.int r))) S 5 39 [(0, .ref x0), (3, .int x3), (4, .int x4)] []) {S : zS} {z : Nat} {x0 : Nat} {x3 : Int32} {x4 : Int32} {q w : Nat} (hq : q + zT ≤ MC + z) (hw : w + 200 * zT ≤ MS + 200 * z) (h : rX7_cause_74 N K39 S z x0 x3 x4 = some (r, T, zT)) : zWt D cy A p l e ({ frames := 7, cells := MC, slots := MS, locals := 162 } : Room) s m args below meth c z q w MC MS (zQ D cy A T zT (some (.int r))) S 5 74 [(0, .ref x0), (3, .int x3), (4, .int x4)] [] := by
  obtain ⟨hx, hb, hml, hown, hr, hlocks, hT⟩ := id X
  intro H locs ls hH hS hl
  unfold rX7_cause_74 at h
  obtain ⟨h, hz⟩ := zgeI_some h
  refine lv_iinc (v := (x4 + (1 : Int32))) (lv' := [(4, .int (x4 + (1 : Int32))), (0, .ref x0), (3, .int x3)]) hx hb dX7_cause_74 hl (k := 2) rfl (z_ii (by decide) _) (by decide) rfl (fun ls hl => ?_)
  refine lv_goto (tgt := 39) hx hb dX7_cause_77 (by decide) ?_
  exact hK39 _ _ _ _ _ _ _ hq hw h _ _ _ hH hS (lv_sub hl [1, 2, 0] rfl)
set_option maxRecDepth 100000 in
set_option maxHeartbeats 4000000 in
theorem wX7_cause_39 {N : Nat} {MC MS zT : Nat} {r : Int32} {T : zS} (X : zX D cy p s m meth c cX7_cause 5 RX7 (some .int)) (hA : ∀ q : Nat, s.heap.size ≤ q → A q) {K39 : zS × Nat × Nat × Int32 × Int32 → Option (Int32 × zS × Nat)} (hK39 : ∀ (S : zS) (z : Nat) (x0 : Nat) (x3 : Int32) (x4 : Int32) (q : Nat) (w : Nat), q + zT ≤ MC + z → w + 200 * zT ≤ MS + 200 * z → K39 (S, z, x0, x3, x4) = some (r, T, zT) → zWt D cy A p l e ({ frames := 7, cells := MC, slots := MS, locals := 162 } : Room) s m args below meth c z q w MC MS (zQ D cy A T zT (some (.int r))) S 5 39 [(0, .ref x0), (3, .int x3), (4, .int x4)] []) {S : zS} {z : Nat} {x0 : Nat} {x3 : Int32} {x4 : Int32} {q w : Nat} (hq : q + zT ≤ MC + z) (hw : w + 200 * zT ≤ MS + 200 * z) (h : rX7_cause_39 N K39 S z x0 x3 x4 = some (r, T, zT)) : zWt D cy A p l e ({ frames := 7, cells := MC, slots := MS, locals := 162 } : Room) s m args below meth c z q w MC MS (zQ D cy A T zT (some (.int r))) S 5 39 [(0, .ref x0), (3, .int x3), (4, .int x4)] [] := by
  obtain ⟨hx, hb, hml, hown, hr, hlocks, hT⟩ := id X
  intro H locs ls hH hS hl
  unfold rX7_cause_39 at h
  obtain ⟨h, hz⟩ := zgeI_some h
  refine lv_iload hx hb dX7_cause_39 (lv_at hl 2 rfl) ?_
  refine lv_iload_n hx hb dX7_cause_41 rfl (lv_at hl 1 rfl) ?_
  refine lv_icmp_ge (tgt := 80) hx hb dX7_cause_42 (by decide) (fun c => ?_) (fun c => ?_)
  · have h := (if_pos c).symm.trans h
    refine lv_iload_n hx hb dX7_cause_80 rfl (lv_at hl 1 rfl) ?_
    exact z_iretZ X hH hS h hq hw dX7_cause_81
  · have h := (if_neg c).symm.trans h
    refine lv_aload_n hx hb dX7_cause_45 rfl (lv_at hl 0 rfl) ?_
    obtain ⟨v1, ev1, h⟩ := zb_some h
    refine z_getr X flX7_19 hH ev1 dX7_cause_46 ?_
    obtain ⟨v2, ev2, h⟩ := zb_some h
    refine z_getr X flX7_153 hH ev2 dX7_cause_49 ?_
    refine lv_iload_n hx hb dX7_cause_52 rfl (lv_at hl 1 rfl) ?_
    obtain ⟨v3, ev3, h⟩ := zb_some h
    refine z_iald X hH ev3 dX7_cause_53 ?_
    refine lv_iload hx hb dX7_cause_54 (lv_at hl 2 rfl) ?_
    refine lv_iushr hx hb dX7_cause_56 (zush_eq _ _) ?_
    refine lv_iconst (v := (1 : Int32)) hx hb dX7_cause_57 (by decide) ?_
    refine lv_iand hx hb dX7_cause_58 ?_
    refine lv_if_eq (tgt := 74) hx hb dX7_cause_59 (by decide) (fun c => ?_) (fun c => ?_)
    · have h := (if_pos c).symm.trans h
      exact wX7_cause_74 X hA hK39 hq hw h _ _ _ hH hS (lv_sub hl [0, 1, 2] rfl)
    · have h := (if_neg c).symm.trans h
      refine lv_aload_n hx hb dX7_cause_62 rfl (lv_at hl 0 rfl) ?_
      refine lv_iload hx hb dX7_cause_63 (lv_at hl 2 rfl) ?_
      obtain ⟨u4, eu4, h⟩ := zb_some h
      obtain ⟨v6, S5, eS5, h⟩ := zb2_some h
      refine z_cV (As := [.int x4]) X hl hH hS mlX7_182 eu4 (kX7_sameThing eS5) rfl rfl (Nat.le_of_ble_eq_true rfl) ⟨rfl, rfl, Nat.le_of_ble_eq_true rfl, Nat.le_of_ble_eq_true rfl⟩ (zz_0 hq hw hz) dX7_cause_65 (fun H locs hH hS => ?_)
      refine lv_if_ne (tgt := 74) hx hb dX7_cause_68 (by decide) (fun c => ?_) (fun c => ?_)
      · have h := (if_neg c).symm.trans h
        exact wX7_cause_74 X hA hK39 hq hw h _ _ _ hH hS (lv_sub hl [0, 1, 2] rfl)
      · have h := (if_pos c).symm.trans h
        refine lv_iload hx hb dX7_cause_71 (lv_at hl 2 rfl) ?_
        exact z_iretZ X hH hS h hq hw dX7_cause_73
set_option maxRecDepth 100000 in
set_option maxHeartbeats 4000000 in
theorem uX7_cause_39 {N : Nat} {MC MS zT : Nat} {r : Int32} {T : zS} (X : zX D cy p s m meth c cX7_cause 5 RX7 (some .int)) (hA : ∀ q : Nat, s.heap.size ≤ q → A q)  {S : zS} {z : Nat} {x0 : Nat} {x3 : Int32} {x4 : Int32} {q w : Nat} (hq : q + zT ≤ MC + z) (hw : w + 200 * zT ≤ MS + 200 * z) (h : rlX7_cause_39 N S z x0 x3 x4 = some (r, T, zT)) : zWt D cy A p l e ({ frames := 7, cells := MC, slots := MS, locals := 162 } : Room) s m args below meth c z q w MC MS (zQ D cy A T zT (some (.int r))) S 5 39 [(0, .ref x0), (3, .int x3), (4, .int x4)] [] := by
  unfold rlX7_cause_39 at h
  refine zloop_ind (P := fun y => ∀ (q : Nat) (w : Nat), q + zT ≤ MC + y.2.1 → w + 200 * zT ≤ MS + 200 * y.2.1 → zWt D cy A p l e ({ frames := 7, cells := MC, slots := MS, locals := 162 } : Room) s m args below meth c y.2.1 q w MC MS (zQ D cy A T zT (some (.int r))) y.1 5 39 [(0, .ref y.2.2.1), (3, .int y.2.2.2.1), (4, .int y.2.2.2.2)] []) ?_ N (S, z, x0, x3, x4) h _ _ hq hw
  intro K hK y hy q w hq hw
  obtain ⟨S, z, x0, x3, x4⟩ := y
  exact wX7_cause_39 X hA (fun S z x0 x3 x4 q w hq hw h => hK (S, z, x0, x3, x4) h q w hq hw) hq hw hy
set_option maxRecDepth 100000 in
set_option maxHeartbeats 4000000 in
theorem wX7_cause_16 {N : Nat} {MC MS zT : Nat} {r : Int32} {T : zS} (X : zX D cy p s m meth c cX7_cause 5 RX7 (some .int)) (hA : ∀ q : Nat, s.heap.size ≤ q → A q)  {S : zS} {z : Nat} {q w : Nat} (hq : q + zT ≤ MC + z) (hw : w + 200 * zT ≤ MS + 200 * z) (h : rX7_cause_16 N S z = some (r, T, zT)) : zWt D cy A p l e ({ frames := 7, cells := MC, slots := MS, locals := 162 } : Room) s m args below meth c z q w MC MS (zQ D cy A T zT (some (.int r))) S 5 16 [] [] := by
  obtain ⟨hx, hb, hml, hown, hr, hlocks, hT⟩ := id X
  intro H locs ls hH hS hl
  unfold rX7_cause_16 at h
  obtain ⟨h, hz⟩ := zgeI_some h
  refine lv_iconst (v := (-1 : Int32)) hx hb dX7_cause_16 (by decide) ?_
  exact z_iretZ X hH hS h hq hw dX7_cause_17
set_option maxRecDepth 100000 in
set_option maxHeartbeats 4000000 in
theorem wX7_cause_0 {N : Nat} {MC MS zT : Nat} {r : Int32} {T : zS} (X : zX D cy p s m meth c cX7_cause 5 RX7 (some .int)) (hA : ∀ q : Nat, s.heap.size ≤ q → A q)  {S : zS} {z : Nat} {x0 : Nat} {x1 : Int32} {x2 : Int32} {x3 : Int32} {q w : Nat} (hq : q + zT ≤ MC + z) (hw : w + 200 * zT ≤ MS + 200 * z) (h : rX7_cause_0 N S z x0 x1 x2 x3 = some (r, T, zT)) : zWt D cy A p l e ({ frames := 7, cells := MC, slots := MS, locals := 162 } : Room) s m args below meth c z q w MC MS (zQ D cy A T zT (some (.int r))) S 5 0 [(0, .ref x0), (1, .int x1), (2, .int x2), (3, .int x3)] [] := by
  obtain ⟨hx, hb, hml, hown, hr, hlocks, hT⟩ := id X
  intro H locs ls hH hS hl
  unfold rX7_cause_0 at h
  obtain ⟨h, hz⟩ := zgeI_some h
  refine lv_iload_n hx hb dX7_cause_0 rfl (lv_at hl 1 rfl) ?_
  refine lv_iload_n hx hb dX7_cause_1 rfl (lv_at hl 2 rfl) ?_
  obtain ⟨v8, S7, eS7, h⟩ := zb2_some h
  refine z_cS (As := [.int x1, .int x2]) X hl hH hS mlX7_99 (kX7_areRooms eS7) rfl rfl (Nat.le_of_ble_eq_true rfl) ⟨rfl, rfl, Nat.le_of_ble_eq_true rfl, Nat.le_of_ble_eq_true rfl⟩ (zz_0 hq hw hz) dX7_cause_2 (fun H locs hH hS => ?_)
  refine lv_if_eq (tgt := 16) hx hb dX7_cause_5 (by decide) (fun c => ?_) (fun c => ?_)
  · have h := (if_pos c).symm.trans h
    exact wX7_cause_16 X hA hq hw h _ _ _ hH hS (lv_sub hl [] rfl)
  · have h := (if_neg c).symm.trans h
    refine lv_aload_n hx hb dX7_cause_8 rfl (lv_at hl 0 rfl) ?_
    refine lv_iload_n hx hb dX7_cause_9 rfl (lv_at hl 3 rfl) ?_
    obtain ⟨u9, eu9, h⟩ := zb_some h
    obtain ⟨v11, S10, eS10, h⟩ := zb2_some h
    refine z_cV (As := [.int x3]) X hl hH hS mlX7_122 eu9 (kX7_isStep eS10) rfl rfl (Nat.le_of_ble_eq_true rfl) ⟨rfl, rfl, Nat.le_of_ble_eq_true rfl, Nat.le_of_ble_eq_true rfl⟩ (zz_0 hq hw hz) dX7_cause_10 (fun H locs hH hS => ?_)
    refine lv_if_ne (tgt := 18) hx hb dX7_cause_13 (by decide) (fun c => ?_) (fun c => ?_)
    · have h := (if_neg c).symm.trans h
      refine lv_aload_n hx hb dX7_cause_18 rfl (lv_at hl 0 rfl) ?_
      refine lv_iload_n hx hb dX7_cause_19 rfl (lv_at hl 1 rfl) ?_
      refine lv_iload_n hx hb dX7_cause_20 rfl (lv_at hl 2 rfl) ?_
      refine lv_iload_n hx hb dX7_cause_21 rfl (lv_at hl 3 rfl) ?_
      obtain ⟨u12, eu12, h⟩ := zb_some h
      obtain ⟨S13, z14, eS13, h⟩ := zb2_some h
      obtain ⟨h, hzz14⟩ := zgeI_some h
      have hmz14 := mX7_buildBoth eS13
      refine z_cV (As := [.int x1, .int x2, .int x3]) X hl hH hS mlX7_178 eu12 (kX7_buildBoth (fun q h => hA q (Nat.le_trans (Nat.le_trans hS.1.1 (Nat.le_of_eq hS.2)) h)) eS13) rfl rfl (Nat.le_of_ble_eq_true rfl) ⟨rfl, rfl, Nat.le_of_ble_eq_true rfl, Nat.le_of_ble_eq_true rfl⟩ (zz_f hq hw hmz14 hzz14) dX7_cause_22 (fun H locs hH hS => ?_)
      obtain ⟨hq, hw⟩ := zz_q hq hw hmz14
      have hz := hzz14
      refine lv_aload_n hx hb dX7_cause_25 rfl (lv_at hl 0 rfl) ?_
      refine lv_iload_n hx hb dX7_cause_26 rfl (lv_at hl 3 rfl) ?_
      obtain ⟨u15, eu15, h⟩ := zb_some h
      obtain ⟨v17, S16, eS16, h⟩ := zb2_some h
      refine z_cV (As := [.int x3]) X hl hH hS mlX7_182 eu15 (kX7_sameThing eS16) rfl rfl (Nat.le_of_ble_eq_true rfl) ⟨rfl, rfl, Nat.le_of_ble_eq_true rfl, Nat.le_of_ble_eq_true rfl⟩ (zz_0 hq hw hz) dX7_cause_27 (fun H locs hH hS => ?_)
      refine lv_if_eq (tgt := 36) hx hb dX7_cause_30 (by decide) (fun c => ?_) (fun c => ?_)
      · have h := (if_pos c).symm.trans h
        refine lv_iconst (v := (0 : Int32)) hx hb dX7_cause_36 (by decide) ?_
        refine lv_istore (lv' := [(4, .int (0 : Int32)), (0, .ref x0), (1, .int x1), (2, .int x2), (3, .int x3)]) hx hb dX7_cause_37 hl (by decide) rfl (fun ls hl => ?_)
        exact uX7_cause_39 X hA hq hw h _ _ _ hH hS (lv_sub hl [1, 4, 0] rfl)
      · have h := (if_neg c).symm.trans h
        refine lv_bipush (v := (-2 : Int32)) hx hb dX7_cause_33 (by decide) ?_
        exact z_iretZ X hH hS h hq hw dX7_cause_35
    · have h := (if_pos c).symm.trans h
      exact wX7_cause_16 X hA hq hw h _ _ _ hH hS (lv_sub hl [] rfl)
theorem mX7_cause {N : Nat} {zT : Nat} {r : Int32} {T : zS} {S : zS} {z : Nat} {x0 : Nat} {x1 : Int32} {x2 : Int32} {x3 : Int32} (h : rX7_cause N S z x0 x1 x2 x3 = some (r, T, zT)) : z ≤ zT := by
  unfold rX7_cause rX7_cause_0 at h
  exact (zgeI_some h).2
set_option maxRecDepth 100000 in
theorem kX7_cause {N : Nat} {zT : Nat} {r : Int32} {T : zS} {S : zS} {z : Nat} {x0 : Nat} {x1 : Int32} {x2 : Int32} {x3 : Int32} (hA0 : ∀ q : Nat, z ≤ q → A q) (h : rX7_cause N S z x0 x1 x2 x3 = some (r, T, zT)) : Met l yX7_cause [.code yX7_cause cX7_cause 5 (some .int)] ({ frames := 7, cells := zT - z, slots := 200 * (zT - z), locals := 162 } : Room) (zP D cy A S z [.ref x0, .int x1, .int x2, .int x3]) (zQ D cy A T zT (some (.int r))) (zT - z) (200 * (zT - z)) A := by
  have hm := mX7_cause h
  refine z_metA (lv := [(0, .ref x0), (1, .int x1), (2, .int x2), (3, .int x3)]) (by decide) (Nat.le_of_ble_eq_true rfl) rfl ?_
  intro p e s m below meth c X hz H locs ls hH hS hl
  exact wX7_cause_0 X (fun q hq => hA0 q (by rw [← hz]; exact hq)) (zz_s hm).1 (zz_s hm).2 h _ _ _ hH hS (lv_sub hl [0, 1, 2, 3] rfl)
set_option maxRecDepth 100000 in
set_option maxHeartbeats 4000000 in
theorem wX7_isFixedBy_34 {N : Nat} {MC MS zT : Nat} {r : Int32} {T : zS} (X : zX D cy p s m meth c cX7_isFixedBy 6 RX7 (some .boolean)) (hA : ∀ q : Nat, s.heap.size ≤ q → A q) {K3 : zS × Nat × Nat × Int32 × Int32 × Int32 × Int32 × Int32 → Option (Int32 × zS × Nat)} (hK3 : ∀ (S : zS) (z : Nat) (x0 : Nat) (x1 : Int32) (x2 : Int32) (x3 : Int32) (x4 : Int32) (x5 : Int32) (q : Nat) (w : Nat), q + zT ≤ MC + z → w + 200 * zT ≤ MS + 200 * z → K3 (S, z, x0, x1, x2, x3, x4, x5) = some (r, T, zT) → zWt D cy A p l e ({ frames := 5, cells := MC, slots := MS, locals := 117 } : Room) s m args below meth c z q w MC MS (zQ D cy A T zT (some (.int r))) S 6 3 [(0, .ref x0), (1, .int x1), (2, .int x2), (3, .int x3), (4, .int x4), (5, .int x5)] []) {S : zS} {z : Nat} {x0 : Nat} {x1 : Int32} {x2 : Int32} {x3 : Int32} {x4 : Int32} {x5 : Int32} {y0 : Nat} {y1 : Int32} {y2 : Nat} {y3 : Int32} {q w : Nat} (hq : q + zT ≤ MC + z) (hw : w + 200 * zT ≤ MS + 200 * z) (h : rX7_isFixedBy_34 N K3 S z x0 x1 x2 x3 x4 x5 y0 y1 y2 y3 = some (r, T, zT)) : zWt D cy A p l e ({ frames := 5, cells := MC, slots := MS, locals := 117 } : Room) s m args below meth c z q w MC MS (zQ D cy A T zT (some (.int r))) S 6 34 [(0, .ref x0), (1, .int x1), (2, .int x2), (3, .int x3), (4, .int x4), (5, .int x5)] [.int y3, .ref y2, .int y1, .ref y0] := by
  obtain ⟨hx, hb, hml, hown, hr, hlocks, hT⟩ := id X
  intro H locs ls hH hS hl
  unfold rX7_isFixedBy_34 at h
  obtain ⟨h, hz⟩ := zgeI_some h
  obtain ⟨v1, ev1, h⟩ := zb_some h
  refine z_aald X hH 13 (by decide) ev1 dX7_isFixedBy_34 ?_
  refine lv_iload hx hb dX7_isFixedBy_35 (lv_at hl 5 rfl) ?_
  obtain ⟨v2, ev2, h⟩ := zb_some h
  refine z_iald X hH ev2 dX7_isFixedBy_37 ?_
  obtain ⟨u3, eu3, h⟩ := zb_some h
  obtain ⟨S4, eS4, h⟩ := zb_some h
  refine z_cV (As := [.int y1, .int v2]) X hl hH hS mlX7_252 eu3 (kX1_turn eS4) rfl rfl (Nat.le_of_ble_eq_true rfl) ⟨rfl, rfl, Nat.le_of_ble_eq_true rfl, Nat.le_of_ble_eq_true rfl⟩ (zz_0 hq hw hz) dX7_isFixedBy_38 (fun H locs hH hS => ?_)
  refine lv_iinc (v := (x5 + (1 : Int32))) (lv' := [(5, .int (x5 + (1 : Int32))), (0, .ref x0), (1, .int x1), (2, .int x2), (3, .int x3), (4, .int x4)]) hx hb dX7_isFixedBy_41 hl (k := 5) rfl (z_ii (by decide) _) (by decide) rfl (fun ls hl => ?_)
  refine lv_goto (tgt := 3) hx hb dX7_isFixedBy_44 (by decide) ?_
  exact hK3 _ _ _ _ _ _ _ _ _ _ hq hw h _ _ _ hH hS (lv_sub hl [1, 2, 3, 4, 5, 0] rfl)
set_option maxRecDepth 100000 in
set_option maxHeartbeats 4000000 in
theorem wX7_isFixedBy_3 {N : Nat} {MC MS zT : Nat} {r : Int32} {T : zS} (X : zX D cy p s m meth c cX7_isFixedBy 6 RX7 (some .boolean)) (hA : ∀ q : Nat, s.heap.size ≤ q → A q) {K3 : zS × Nat × Nat × Int32 × Int32 × Int32 × Int32 × Int32 → Option (Int32 × zS × Nat)} (hK3 : ∀ (S : zS) (z : Nat) (x0 : Nat) (x1 : Int32) (x2 : Int32) (x3 : Int32) (x4 : Int32) (x5 : Int32) (q : Nat) (w : Nat), q + zT ≤ MC + z → w + 200 * zT ≤ MS + 200 * z → K3 (S, z, x0, x1, x2, x3, x4, x5) = some (r, T, zT) → zWt D cy A p l e ({ frames := 5, cells := MC, slots := MS, locals := 117 } : Room) s m args below meth c z q w MC MS (zQ D cy A T zT (some (.int r))) S 6 3 [(0, .ref x0), (1, .int x1), (2, .int x2), (3, .int x3), (4, .int x4), (5, .int x5)] []) {S : zS} {z : Nat} {x0 : Nat} {x1 : Int32} {x2 : Int32} {x3 : Int32} {x4 : Int32} {x5 : Int32} {q w : Nat} (hq : q + zT ≤ MC + z) (hw : w + 200 * zT ≤ MS + 200 * z) (h : rX7_isFixedBy_3 N K3 S z x0 x1 x2 x3 x4 x5 = some (r, T, zT)) : zWt D cy A p l e ({ frames := 5, cells := MC, slots := MS, locals := 117 } : Room) s m args below meth c z q w MC MS (zQ D cy A T zT (some (.int r))) S 6 3 [(0, .ref x0), (1, .int x1), (2, .int x2), (3, .int x3), (4, .int x4), (5, .int x5)] [] := by
  obtain ⟨hx, hb, hml, hown, hr, hlocks, hT⟩ := id X
  intro H locs ls hH hS hl
  unfold rX7_isFixedBy_3 at h
  obtain ⟨h, hz⟩ := zgeI_some h
  refine lv_iload hx hb dX7_isFixedBy_3 (lv_at hl 5 rfl) ?_
  refine lv_bipush (v := (8 : Int32)) hx hb dX7_isFixedBy_5 (by decide) ?_
  refine lv_icmp_ge (tgt := 47) hx hb dX7_isFixedBy_7 (by decide) (fun c => ?_) (fun c => ?_)
  · have h := (if_pos c).symm.trans h
    refine lv_aload_n hx hb dX7_isFixedBy_47 rfl (lv_at hl 0 rfl) ?_
    obtain ⟨v5, ev5, h⟩ := zb_some h
    refine z_getr X flX7_37 hH ev5 dX7_isFixedBy_48 ?_
    refine lv_aload_n hx hb dX7_isFixedBy_51 rfl (lv_at hl 0 rfl) ?_
    obtain ⟨v6, ev6, h⟩ := zb_some h
    refine z_getr X flX7_19 hH ev6 dX7_isFixedBy_52 ?_
    obtain ⟨v7, ev7, h⟩ := zb_some h
    refine z_getr X flX7_153 hH ev7 dX7_isFixedBy_55 ?_
    refine lv_iload hx hb dX7_isFixedBy_58 (lv_at hl 4 rfl) ?_
    obtain ⟨v8, ev8, h⟩ := zb_some h
    refine z_iald X hH ev8 dX7_isFixedBy_60 ?_
    obtain ⟨u9, eu9, h⟩ := zb_some h
    obtain ⟨S10, z11, eS10, h⟩ := zb2_some h
    obtain ⟨h, hzz11⟩ := zgeI_some h
    have hmz11 := mX1_make eS10
    refine z_cV (As := [.int v8]) X hl hH hS mlX7_174 eu9 (kX1_make (fun q h => hA q (Nat.le_trans (Nat.le_trans hS.1.1 (Nat.le_of_eq hS.2)) h)) eS10) rfl rfl (Nat.le_of_ble_eq_true rfl) ⟨rfl, rfl, Nat.le_of_ble_eq_true rfl, Nat.le_of_ble_eq_true rfl⟩ (zz_f hq hw hmz11 hzz11) dX7_isFixedBy_61 (fun H locs hH hS => ?_)
    obtain ⟨hq, hw⟩ := zz_q hq hw hmz11
    have hz := hzz11
    refine lv_aload_n hx hb dX7_isFixedBy_64 rfl (lv_at hl 0 rfl) ?_
    refine lv_iload hx hb dX7_isFixedBy_65 (lv_at hl 4 rfl) ?_
    obtain ⟨u12, eu12, h⟩ := zb_some h
    obtain ⟨v14, S13, eS13, h⟩ := zb2_some h
    refine z_cV (As := [.int x4]) X hl hH hS mlX7_182 eu12 (kX7_sameThing eS13) rfl rfl (Nat.le_of_ble_eq_true rfl) ⟨rfl, rfl, Nat.le_of_ble_eq_true rfl, Nat.le_of_ble_eq_true rfl⟩ (zz_0 hq hw hz) dX7_isFixedBy_67 (fun H locs hH hS => ?_)
    exact z_zretZ X hH hS h hq hw dX7_isFixedBy_70
  · have h := (if_neg c).symm.trans h
    refine lv_aload_n hx hb dX7_isFixedBy_10 rfl (lv_at hl 0 rfl) ?_
    obtain ⟨v15, ev15, h⟩ := zb_some h
    refine z_getr X flX7_37 hH ev15 dX7_isFixedBy_11 ?_
    refine lv_iload hx hb dX7_isFixedBy_14 (lv_at hl 5 rfl) ?_
    refine lv_aload_n hx hb dX7_isFixedBy_16 rfl (lv_at hl 0 rfl) ?_
    obtain ⟨v16, ev16, h⟩ := zb_some h
    refine z_getr X flX7_25 hH ev16 dX7_isFixedBy_17 ?_
    refine lv_iload_n hx hb dX7_isFixedBy_20 rfl (lv_at hl 1 rfl) ?_
    refine lv_iload hx hb dX7_isFixedBy_21 (lv_at hl 5 rfl) ?_
    refine lv_iushr hx hb dX7_isFixedBy_23 (zush_eq _ _) ?_
    refine lv_iconst (v := (1 : Int32)) hx hb dX7_isFixedBy_24 (by decide) ?_
    refine lv_iand hx hb dX7_isFixedBy_25 ?_
    refine lv_if_eq (tgt := 33) hx hb dX7_isFixedBy_26 (by decide) (fun c => ?_) (fun c => ?_)
    · have h := (if_pos c).symm.trans h
      refine lv_iload_n hx hb dX7_isFixedBy_33 rfl (lv_at hl 3 rfl) ?_
      exact wX7_isFixedBy_34 X hA hK3 hq hw h _ _ _ hH hS (lv_sub hl [0, 1, 2, 3, 4, 5] rfl)
    · have h := (if_neg c).symm.trans h
      refine lv_iload_n hx hb dX7_isFixedBy_29 rfl (lv_at hl 2 rfl) ?_
      refine lv_goto (tgt := 34) hx hb dX7_isFixedBy_30 (by decide) ?_
      exact wX7_isFixedBy_34 X hA hK3 hq hw h _ _ _ hH hS (lv_sub hl [0, 1, 2, 3, 4, 5] rfl)
set_option maxRecDepth 100000 in
set_option maxHeartbeats 4000000 in
theorem uX7_isFixedBy_3 {N : Nat} {MC MS zT : Nat} {r : Int32} {T : zS} (X : zX D cy p s m meth c cX7_isFixedBy 6 RX7 (some .boolean)) (hA : ∀ q : Nat, s.heap.size ≤ q → A q)  {S : zS} {z : Nat} {x0 : Nat} {x1 : Int32} {x2 : Int32} {x3 : Int32} {x4 : Int32} {x5 : Int32} {q w : Nat} (hq : q + zT ≤ MC + z) (hw : w + 200 * zT ≤ MS + 200 * z) (h : rlX7_isFixedBy_3 N S z x0 x1 x2 x3 x4 x5 = some (r, T, zT)) : zWt D cy A p l e ({ frames := 5, cells := MC, slots := MS, locals := 117 } : Room) s m args below meth c z q w MC MS (zQ D cy A T zT (some (.int r))) S 6 3 [(0, .ref x0), (1, .int x1), (2, .int x2), (3, .int x3), (4, .int x4), (5, .int x5)] [] := by
  unfold rlX7_isFixedBy_3 at h
  refine zloop_ind (P := fun y => ∀ (q : Nat) (w : Nat), q + zT ≤ MC + y.2.1 → w + 200 * zT ≤ MS + 200 * y.2.1 → zWt D cy A p l e ({ frames := 5, cells := MC, slots := MS, locals := 117 } : Room) s m args below meth c y.2.1 q w MC MS (zQ D cy A T zT (some (.int r))) y.1 6 3 [(0, .ref y.2.2.1), (1, .int y.2.2.2.1), (2, .int y.2.2.2.2.1), (3, .int y.2.2.2.2.2.1), (4, .int y.2.2.2.2.2.2.1), (5, .int y.2.2.2.2.2.2.2)] []) ?_ N (S, z, x0, x1, x2, x3, x4, x5) h _ _ hq hw
  intro K hK y hy q w hq hw
  obtain ⟨S, z, x0, x1, x2, x3, x4, x5⟩ := y
  exact wX7_isFixedBy_3 X hA (fun S z x0 x1 x2 x3 x4 x5 q w hq hw h => hK (S, z, x0, x1, x2, x3, x4, x5) h q w hq hw) hq hw hy
set_option maxRecDepth 100000 in
set_option maxHeartbeats 4000000 in
theorem wX7_isFixedBy_0 {N : Nat} {MC MS zT : Nat} {r : Int32} {T : zS} (X : zX D cy p s m meth c cX7_isFixedBy 6 RX7 (some .boolean)) (hA : ∀ q : Nat, s.heap.size ≤ q → A q)  {S : zS} {z : Nat} {x0 : Nat} {x1 : Int32} {x2 : Int32} {x3 : Int32} {x4 : Int32} {q w : Nat} (hq : q + zT ≤ MC + z) (hw : w + 200 * zT ≤ MS + 200 * z) (h : rX7_isFixedBy_0 N S z x0 x1 x2 x3 x4 = some (r, T, zT)) : zWt D cy A p l e ({ frames := 5, cells := MC, slots := MS, locals := 117 } : Room) s m args below meth c z q w MC MS (zQ D cy A T zT (some (.int r))) S 6 0 [(0, .ref x0), (1, .int x1), (2, .int x2), (3, .int x3), (4, .int x4)] [] := by
  obtain ⟨hx, hb, hml, hown, hr, hlocks, hT⟩ := id X
  intro H locs ls hH hS hl
  unfold rX7_isFixedBy_0 at h
  obtain ⟨h, hz⟩ := zgeI_some h
  refine lv_iconst (v := (0 : Int32)) hx hb dX7_isFixedBy_0 (by decide) ?_
  refine lv_istore (lv' := [(5, .int (0 : Int32)), (0, .ref x0), (1, .int x1), (2, .int x2), (3, .int x3), (4, .int x4)]) hx hb dX7_isFixedBy_1 hl (by decide) rfl (fun ls hl => ?_)
  exact uX7_isFixedBy_3 X hA hq hw h _ _ _ hH hS (lv_sub hl [1, 2, 3, 4, 5, 0] rfl)
theorem mX7_isFixedBy {N : Nat} {zT : Nat} {r : Int32} {T : zS} {S : zS} {z : Nat} {x0 : Nat} {x1 : Int32} {x2 : Int32} {x3 : Int32} {x4 : Int32} (h : rX7_isFixedBy N S z x0 x1 x2 x3 x4 = some (r, T, zT)) : z ≤ zT := by
  unfold rX7_isFixedBy rX7_isFixedBy_0 at h
  exact (zgeI_some h).2
set_option maxRecDepth 100000 in
theorem kX7_isFixedBy {N : Nat} {zT : Nat} {r : Int32} {T : zS} {S : zS} {z : Nat} {x0 : Nat} {x1 : Int32} {x2 : Int32} {x3 : Int32} {x4 : Int32} (hA0 : ∀ q : Nat, z ≤ q → A q) (h : rX7_isFixedBy N S z x0 x1 x2 x3 x4 = some (r, T, zT)) : Met l yX7_isFixedBy [.code yX7_isFixedBy cX7_isFixedBy 6 (some .boolean)] ({ frames := 5, cells := zT - z, slots := 200 * (zT - z), locals := 117 } : Room) (zP D cy A S z [.ref x0, .int x1, .int x2, .int x3, .int x4]) (zQ D cy A T zT (some (.int r))) (zT - z) (200 * (zT - z)) A := by
  have hm := mX7_isFixedBy h
  refine z_metA (lv := [(0, .ref x0), (1, .int x1), (2, .int x2), (3, .int x3), (4, .int x4)]) (by decide) (Nat.le_of_ble_eq_true rfl) rfl ?_
  intro p e s m below meth c X hz H locs ls hH hS hl
  exact wX7_isFixedBy_0 X (fun q hq => hA0 q (by rw [← hz]; exact hq)) (zz_s hm).1 (zz_s hm).2 h _ _ _ hH hS (lv_sub hl [0, 1, 2, 3, 4] rfl)
set_option maxRecDepth 100000 in
set_option maxHeartbeats 4000000 in
theorem wX7_isPart_21 {z : Nat} {N : Nat} {r : Int32} {T : zS} (X : zX D cy p s m meth c cX7_isPart 3 RX7 (some .boolean))  {S : zS} {y0 : Int32} (h : rX7_isPart_21 N S y0 = some (r, T)) : zWt D cy A p l e { frames := 1, cells := 0, slots := 0, locals := 20 } s m args below meth c z 0 0 0 0 (zQ D cy A T z (some (.int r))) S 3 21 [] [.int y0] := by
  obtain ⟨hx, hb, hml, hown, hr, hlocks, hT⟩ := id X
  intro H locs ls hH hS hl
  unfold rX7_isPart_21 at h
  exact z_zret X hH hS h dX7_isPart_21
set_option maxRecDepth 100000 in
set_option maxHeartbeats 4000000 in
theorem wX7_isPart_20 {z : Nat} {N : Nat} {r : Int32} {T : zS} (X : zX D cy p s m meth c cX7_isPart 3 RX7 (some .boolean))  {S : zS} (h : rX7_isPart_20 N S = some (r, T)) : zWt D cy A p l e { frames := 1, cells := 0, slots := 0, locals := 20 } s m args below meth c z 0 0 0 0 (zQ D cy A T z (some (.int r))) S 3 20 [] [] := by
  obtain ⟨hx, hb, hml, hown, hr, hlocks, hT⟩ := id X
  intro H locs ls hH hS hl
  unfold rX7_isPart_20 at h
  refine lv_iconst (v := (0 : Int32)) hx hb dX7_isPart_20 (by decide) ?_
  exact wX7_isPart_21 X h _ _ _ hH hS (lv_sub hl [] rfl)
set_option maxRecDepth 100000 in
set_option maxHeartbeats 4000000 in
theorem wX7_isPart_0 {z : Nat} {N : Nat} {r : Int32} {T : zS} (X : zX D cy p s m meth c cX7_isPart 3 RX7 (some .boolean))  {S : zS} {x0 : Int32} {x1 : Int32} {x2 : Int32} (h : rX7_isPart_0 N S x0 x1 x2 = some (r, T)) : zWt D cy A p l e { frames := 1, cells := 0, slots := 0, locals := 20 } s m args below meth c z 0 0 0 0 (zQ D cy A T z (some (.int r))) S 3 0 [(0, .int x0), (1, .int x1), (2, .int x2)] [] := by
  obtain ⟨hx, hb, hml, hown, hr, hlocks, hT⟩ := id X
  intro H locs ls hH hS hl
  unfold rX7_isPart_0 at h
  refine lv_iload_n hx hb dX7_isPart_0 rfl (lv_at hl 0 rfl) ?_
  refine lv_iload_n hx hb dX7_isPart_1 rfl (lv_at hl 1 rfl) ?_
  refine lv_iconst (v := (-1 : Int32)) hx hb dX7_isPart_2 (by decide) ?_
  refine lv_ixor hx hb dX7_isPart_3 ?_
  refine lv_iand hx hb dX7_isPart_4 ?_
  refine lv_if_ne (tgt := 20) hx hb dX7_isPart_5 (by decide) (fun c => ?_) (fun c => ?_)
  · have h := (if_neg c).symm.trans h
    exact wX7_isPart_20 X h _ _ _ hH hS (lv_sub hl [] rfl)
  · have h := (if_pos c).symm.trans h
    refine lv_iload_n hx hb dX7_isPart_8 rfl (lv_at hl 0 rfl) ?_
    obtain ⟨v2, S1, eS1, h⟩ := zb2_some h
    refine z_cS (As := [.int x0]) X hl hH hS mlX7_107 (kJ6_bitCount_0f7a4 eS1) rfl rfl (Nat.le_of_ble_eq_true rfl) ⟨rfl, rfl, Nat.le_of_ble_eq_true rfl, Nat.le_of_ble_eq_true rfl⟩ ⟨Nat.le_refl _, Nat.le_refl _⟩ dX7_isPart_9 (fun H locs hH hS => ?_)
    refine lv_iload_n hx hb dX7_isPart_12 rfl (lv_at hl 2 rfl) ?_
    refine lv_icmp_ne (tgt := 20) hx hb dX7_isPart_13 (by decide) (fun c => ?_) (fun c => ?_)
    · have h := (if_neg c).symm.trans h
      exact wX7_isPart_20 X h _ _ _ hH hS (lv_sub hl [] rfl)
    · have h := (if_pos c).symm.trans h
      refine lv_iconst (v := (1 : Int32)) hx hb dX7_isPart_16 (by decide) ?_
      refine lv_goto (tgt := 21) hx hb dX7_isPart_17 (by decide) ?_
      exact wX7_isPart_21 X h _ _ _ hH hS (lv_sub hl [] rfl)
set_option maxRecDepth 100000 in
theorem kX7_isPart {N : Nat} {r : Int32} {T : zS} {S : zS} {z : Nat} {x0 : Int32} {x1 : Int32} {x2 : Int32} (h : rX7_isPart N S x0 x1 x2 = some (r, T)) : Met l yX7_isPart [.code yX7_isPart cX7_isPart 3 (some .boolean)] { frames := 1, cells := 0, slots := 0, locals := 20 } (zP D cy A S z [.int x0, .int x1, .int x2]) (zQ D cy A T z (some (.int r))) 0 0 A := by
  refine z_met (lv := [(0, .int x0), (1, .int x1), (2, .int x2)]) (by decide) (Nat.le_of_ble_eq_true rfl) rfl ?_
  intro p e s m below meth c X H locs ls hH hS hl
  exact wX7_isPart_0 X h _ _ _ hH hS (lv_sub hl [0, 1, 2] rfl)
set_option maxRecDepth 100000 in
set_option maxHeartbeats 4000000 in
theorem wX7_fix_91 {N : Nat} {MC MS zT : Nat} {r : Int32} {T : zS} (X : zX D cy p s m meth c cX7_fix 7 RX7 (some .int)) (hA : ∀ q : Nat, s.heap.size ≤ q → A q) {K46 : zS × Nat × Nat × Int32 × Int32 × Int32 × Int32 × Int32 → Option (Int32 × zS × Nat)} (hK46 : ∀ (S : zS) (z : Nat) (x0 : Nat) (x1 : Int32) (x2 : Int32) (x3 : Int32) (x4 : Int32) (x5 : Int32) (q : Nat) (w : Nat), q + zT ≤ MC + z → w + 200 * zT ≤ MS + 200 * z → K46 (S, z, x0, x1, x2, x3, x4, x5) = some (r, T, zT) → zWt D cy A p l e ({ frames := 7, cells := MC, slots := MS, locals := 162 } : Room) s m args below meth c z q w MC MS (zQ D cy A T zT (some (.int r))) S 7 46 [(0, .ref x0), (1, .int x1), (2, .int x2), (3, .int x3), (4, .int x4), (5, .int x5)] []) {K56 : zS × Nat × Nat × Int32 × Int32 × Int32 × Int32 × Int32 × Int32 → Option (Int32 × zS × Nat)} (hK56 : ∀ (S : zS) (z : Nat) (x0 : Nat) (x1 : Int32) (x2 : Int32) (x3 : Int32) (x4 : Int32) (x5 : Int32) (x6 : Int32) (q : Nat) (w : Nat), q + zT ≤ MC + z → w + 200 * zT ≤ MS + 200 * z → K56 (S, z, x0, x1, x2, x3, x4, x5, x6) = some (r, T, zT) → zWt D cy A p l e ({ frames := 7, cells := MC, slots := MS, locals := 162 } : Room) s m args below meth c z q w MC MS (zQ D cy A T zT (some (.int r))) S 7 56 [(0, .ref x0), (1, .int x1), (2, .int x2), (3, .int x3), (4, .int x4), (5, .int x5), (6, .int x6)] []) {S : zS} {z : Nat} {x0 : Nat} {x1 : Int32} {x2 : Int32} {x3 : Int32} {x4 : Int32} {x5 : Int32} {x6 : Int32} {q w : Nat} (hq : q + zT ≤ MC + z) (hw : w + 200 * zT ≤ MS + 200 * z) (h : rX7_fix_91 N K46 K56 S z x0 x1 x2 x3 x4 x5 x6 = some (r, T, zT)) : zWt D cy A p l e ({ frames := 7, cells := MC, slots := MS, locals := 162 } : Room) s m args below meth c z q w MC MS (zQ D cy A T zT (some (.int r))) S 7 91 [(0, .ref x0), (1, .int x1), (2, .int x2), (3, .int x3), (4, .int x4), (5, .int x5), (6, .int x6)] [] := by
  obtain ⟨hx, hb, hml, hown, hr, hlocks, hT⟩ := id X
  intro H locs ls hH hS hl
  unfold rX7_fix_91 at h
  obtain ⟨h, hz⟩ := zgeI_some h
  refine lv_iinc (v := (x6 + (1 : Int32))) (lv' := [(6, .int (x6 + (1 : Int32))), (0, .ref x0), (1, .int x1), (2, .int x2), (3, .int x3), (4, .int x4), (5, .int x5)]) hx hb dX7_fix_91 hl (k := 6) rfl (z_ii (by decide) _) (by decide) rfl (fun ls hl => ?_)
  refine lv_goto (tgt := 56) hx hb dX7_fix_94 (by decide) ?_
  exact hK56 _ _ _ _ _ _ _ _ _ _ _ hq hw h _ _ _ hH hS (lv_sub hl [1, 2, 3, 4, 5, 6, 0] rfl)
set_option maxRecDepth 100000 in
set_option maxHeartbeats 4000000 in
theorem wX7_fix_56 {N : Nat} {MC MS zT : Nat} {r : Int32} {T : zS} (X : zX D cy p s m meth c cX7_fix 7 RX7 (some .int)) (hA : ∀ q : Nat, s.heap.size ≤ q → A q) {K46 : zS × Nat × Nat × Int32 × Int32 × Int32 × Int32 × Int32 → Option (Int32 × zS × Nat)} (hK46 : ∀ (S : zS) (z : Nat) (x0 : Nat) (x1 : Int32) (x2 : Int32) (x3 : Int32) (x4 : Int32) (x5 : Int32) (q : Nat) (w : Nat), q + zT ≤ MC + z → w + 200 * zT ≤ MS + 200 * z → K46 (S, z, x0, x1, x2, x3, x4, x5) = some (r, T, zT) → zWt D cy A p l e ({ frames := 7, cells := MC, slots := MS, locals := 162 } : Room) s m args below meth c z q w MC MS (zQ D cy A T zT (some (.int r))) S 7 46 [(0, .ref x0), (1, .int x1), (2, .int x2), (3, .int x3), (4, .int x4), (5, .int x5)] []) {K56 : zS × Nat × Nat × Int32 × Int32 × Int32 × Int32 × Int32 × Int32 → Option (Int32 × zS × Nat)} (hK56 : ∀ (S : zS) (z : Nat) (x0 : Nat) (x1 : Int32) (x2 : Int32) (x3 : Int32) (x4 : Int32) (x5 : Int32) (x6 : Int32) (q : Nat) (w : Nat), q + zT ≤ MC + z → w + 200 * zT ≤ MS + 200 * z → K56 (S, z, x0, x1, x2, x3, x4, x5, x6) = some (r, T, zT) → zWt D cy A p l e ({ frames := 7, cells := MC, slots := MS, locals := 162 } : Room) s m args below meth c z q w MC MS (zQ D cy A T zT (some (.int r))) S 7 56 [(0, .ref x0), (1, .int x1), (2, .int x2), (3, .int x3), (4, .int x4), (5, .int x5), (6, .int x6)] []) {S : zS} {z : Nat} {x0 : Nat} {x1 : Int32} {x2 : Int32} {x3 : Int32} {x4 : Int32} {x5 : Int32} {x6 : Int32} {q w : Nat} (hq : q + zT ≤ MC + z) (hw : w + 200 * zT ≤ MS + 200 * z) (h : rX7_fix_56 N K46 K56 S z x0 x1 x2 x3 x4 x5 x6 = some (r, T, zT)) : zWt D cy A p l e ({ frames := 7, cells := MC, slots := MS, locals := 162 } : Room) s m args below meth c z q w MC MS (zQ D cy A T zT (some (.int r))) S 7 56 [(0, .ref x0), (1, .int x1), (2, .int x2), (3, .int x3), (4, .int x4), (5, .int x5), (6, .int x6)] [] := by
  obtain ⟨hx, hb, hml, hown, hr, hlocks, hT⟩ := id X
  intro H locs ls hH hS hl
  unfold rX7_fix_56 at h
  obtain ⟨h, hz⟩ := zgeI_some h
  refine lv_iload hx hb dX7_fix_56 (lv_at hl 6 rfl) ?_
  refine lv_sipush (v := (255 : Int32)) hx hb dX7_fix_58 (by decide) ?_
  refine lv_icmp_gt (tgt := 97) hx hb dX7_fix_61 (by decide) (fun c => ?_) (fun c => ?_)
  · have h := (if_pos c).symm.trans h
    refine lv_iinc (v := (x5 + (1 : Int32))) (lv' := [(5, .int (x5 + (1 : Int32))), (0, .ref x0), (1, .int x1), (2, .int x2), (3, .int x3), (4, .int x4), (6, .int x6)]) hx hb dX7_fix_97 hl (k := 5) rfl (z_ii (by decide) _) (by decide) rfl (fun ls hl => ?_)
    refine lv_goto (tgt := 46) hx hb dX7_fix_100 (by decide) ?_
    exact hK46 _ _ _ _ _ _ _ _ _ _ hq hw h _ _ _ hH hS (lv_sub hl [1, 2, 3, 4, 5, 0] rfl)
  · have h := (if_neg c).symm.trans h
    refine lv_iload hx hb dX7_fix_64 (lv_at hl 6 rfl) ?_
    refine lv_iload hx hb dX7_fix_66 (lv_at hl 4 rfl) ?_
    refine lv_iload hx hb dX7_fix_68 (lv_at hl 5 rfl) ?_
    obtain ⟨v2, S1, eS1, h⟩ := zb2_some h
    refine z_cS (As := [.int x6, .int x4, .int x5]) X hl hH hS mlX7_202 (kX7_isPart eS1) rfl rfl (Nat.le_of_ble_eq_true rfl) ⟨rfl, rfl, Nat.le_of_ble_eq_true rfl, Nat.le_of_ble_eq_true rfl⟩ (zz_0 hq hw hz) dX7_fix_70 (fun H locs hH hS => ?_)
    refine lv_if_eq (tgt := 91) hx hb dX7_fix_73 (by decide) (fun c => ?_) (fun c => ?_)
    · have h := (if_pos c).symm.trans h
      exact wX7_fix_91 X hA hK46 hK56 hq hw h _ _ _ hH hS (lv_sub hl [0, 1, 2, 3, 4, 5, 6] rfl)
    · have h := (if_neg c).symm.trans h
      refine lv_aload_n hx hb dX7_fix_76 rfl (lv_at hl 0 rfl) ?_
      refine lv_iload hx hb dX7_fix_77 (lv_at hl 6 rfl) ?_
      refine lv_iload_n hx hb dX7_fix_79 rfl (lv_at hl 1 rfl) ?_
      refine lv_iload_n hx hb dX7_fix_80 rfl (lv_at hl 2 rfl) ?_
      refine lv_iload_n hx hb dX7_fix_81 rfl (lv_at hl 3 rfl) ?_
      obtain ⟨u3, eu3, h⟩ := zb_some h
      obtain ⟨v6, S4, z5, eS4, h⟩ := zb3_some h
      obtain ⟨h, hzz5⟩ := zgeI_some h
      have hmz5 := mX7_isFixedBy eS4
      refine z_cV (As := [.int x6, .int x1, .int x2, .int x3]) X hl hH hS mlX7_206 eu3 (kX7_isFixedBy (fun q h => hA q (Nat.le_trans (Nat.le_trans hS.1.1 (Nat.le_of_eq hS.2)) h)) eS4) rfl rfl (Nat.le_of_ble_eq_true rfl) ⟨rfl, rfl, Nat.le_of_ble_eq_true rfl, Nat.le_of_ble_eq_true rfl⟩ (zz_f hq hw hmz5 hzz5) dX7_fix_82 (fun H locs hH hS => ?_)
      obtain ⟨hq, hw⟩ := zz_q hq hw hmz5
      have hz := hzz5
      refine lv_if_eq (tgt := 91) hx hb dX7_fix_85 (by decide) (fun c => ?_) (fun c => ?_)
      · have h := (if_pos c).symm.trans h
        exact wX7_fix_91 X hA hK46 hK56 hq hw h _ _ _ hH hS (lv_sub hl [0, 1, 2, 3, 4, 5, 6] rfl)
      · have h := (if_neg c).symm.trans h
        refine lv_iload hx hb dX7_fix_88 (lv_at hl 6 rfl) ?_
        exact z_iretZ X hH hS h hq hw dX7_fix_90
set_option maxRecDepth 100000 in
set_option maxHeartbeats 4000000 in
theorem uX7_fix_56 {N : Nat} {MC MS zT : Nat} {r : Int32} {T : zS} (X : zX D cy p s m meth c cX7_fix 7 RX7 (some .int)) (hA : ∀ q : Nat, s.heap.size ≤ q → A q) {K46 : zS × Nat × Nat × Int32 × Int32 × Int32 × Int32 × Int32 → Option (Int32 × zS × Nat)} (hK46 : ∀ (S : zS) (z : Nat) (x0 : Nat) (x1 : Int32) (x2 : Int32) (x3 : Int32) (x4 : Int32) (x5 : Int32) (q : Nat) (w : Nat), q + zT ≤ MC + z → w + 200 * zT ≤ MS + 200 * z → K46 (S, z, x0, x1, x2, x3, x4, x5) = some (r, T, zT) → zWt D cy A p l e ({ frames := 7, cells := MC, slots := MS, locals := 162 } : Room) s m args below meth c z q w MC MS (zQ D cy A T zT (some (.int r))) S 7 46 [(0, .ref x0), (1, .int x1), (2, .int x2), (3, .int x3), (4, .int x4), (5, .int x5)] []) {S : zS} {z : Nat} {x0 : Nat} {x1 : Int32} {x2 : Int32} {x3 : Int32} {x4 : Int32} {x5 : Int32} {x6 : Int32} {q w : Nat} (hq : q + zT ≤ MC + z) (hw : w + 200 * zT ≤ MS + 200 * z) (h : rlX7_fix_56 N K46 S z x0 x1 x2 x3 x4 x5 x6 = some (r, T, zT)) : zWt D cy A p l e ({ frames := 7, cells := MC, slots := MS, locals := 162 } : Room) s m args below meth c z q w MC MS (zQ D cy A T zT (some (.int r))) S 7 56 [(0, .ref x0), (1, .int x1), (2, .int x2), (3, .int x3), (4, .int x4), (5, .int x5), (6, .int x6)] [] := by
  unfold rlX7_fix_56 at h
  refine zloop_ind (P := fun y => ∀ (q : Nat) (w : Nat), q + zT ≤ MC + y.2.1 → w + 200 * zT ≤ MS + 200 * y.2.1 → zWt D cy A p l e ({ frames := 7, cells := MC, slots := MS, locals := 162 } : Room) s m args below meth c y.2.1 q w MC MS (zQ D cy A T zT (some (.int r))) y.1 7 56 [(0, .ref y.2.2.1), (1, .int y.2.2.2.1), (2, .int y.2.2.2.2.1), (3, .int y.2.2.2.2.2.1), (4, .int y.2.2.2.2.2.2.1), (5, .int y.2.2.2.2.2.2.2.1), (6, .int y.2.2.2.2.2.2.2.2)] []) ?_ N (S, z, x0, x1, x2, x3, x4, x5, x6) h _ _ hq hw
  intro K hK y hy q w hq hw
  obtain ⟨S, z, x0, x1, x2, x3, x4, x5, x6⟩ := y
  exact wX7_fix_56 X hA hK46 (fun S z x0 x1 x2 x3 x4 x5 x6 q w hq hw h => hK (S, z, x0, x1, x2, x3, x4, x5, x6) h q w hq hw) hq hw hy
set_option maxRecDepth 100000 in
set_option maxHeartbeats 4000000 in
theorem wX7_fix_46 {N : Nat} {MC MS zT : Nat} {r : Int32} {T : zS} (X : zX D cy p s m meth c cX7_fix 7 RX7 (some .int)) (hA : ∀ q : Nat, s.heap.size ≤ q → A q) {K46 : zS × Nat × Nat × Int32 × Int32 × Int32 × Int32 × Int32 → Option (Int32 × zS × Nat)} (hK46 : ∀ (S : zS) (z : Nat) (x0 : Nat) (x1 : Int32) (x2 : Int32) (x3 : Int32) (x4 : Int32) (x5 : Int32) (q : Nat) (w : Nat), q + zT ≤ MC + z → w + 200 * zT ≤ MS + 200 * z → K46 (S, z, x0, x1, x2, x3, x4, x5) = some (r, T, zT) → zWt D cy A p l e ({ frames := 7, cells := MC, slots := MS, locals := 162 } : Room) s m args below meth c z q w MC MS (zQ D cy A T zT (some (.int r))) S 7 46 [(0, .ref x0), (1, .int x1), (2, .int x2), (3, .int x3), (4, .int x4), (5, .int x5)] []) {S : zS} {z : Nat} {x0 : Nat} {x1 : Int32} {x2 : Int32} {x3 : Int32} {x4 : Int32} {x5 : Int32} {q w : Nat} (hq : q + zT ≤ MC + z) (hw : w + 200 * zT ≤ MS + 200 * z) (h : rX7_fix_46 N K46 S z x0 x1 x2 x3 x4 x5 = some (r, T, zT)) : zWt D cy A p l e ({ frames := 7, cells := MC, slots := MS, locals := 162 } : Room) s m args below meth c z q w MC MS (zQ D cy A T zT (some (.int r))) S 7 46 [(0, .ref x0), (1, .int x1), (2, .int x2), (3, .int x3), (4, .int x4), (5, .int x5)] [] := by
  obtain ⟨hx, hb, hml, hown, hr, hlocks, hT⟩ := id X
  intro H locs ls hH hS hl
  unfold rX7_fix_46 at h
  obtain ⟨h, hz⟩ := zgeI_some h
  refine lv_iload hx hb dX7_fix_46 (lv_at hl 5 rfl) ?_
  refine lv_bipush (v := (8 : Int32)) hx hb dX7_fix_48 (by decide) ?_
  refine lv_icmp_gt (tgt := 103) hx hb dX7_fix_50 (by decide) (fun c => ?_) (fun c => ?_)
  · have h := (if_pos c).symm.trans h
    refine lv_iload hx hb dX7_fix_103 (lv_at hl 4 rfl) ?_
    exact z_iretZ X hH hS h hq hw dX7_fix_105
  · have h := (if_neg c).symm.trans h
    refine lv_iconst (v := (0 : Int32)) hx hb dX7_fix_53 (by decide) ?_
    refine lv_istore (lv' := [(6, .int (0 : Int32)), (0, .ref x0), (1, .int x1), (2, .int x2), (3, .int x3), (4, .int x4), (5, .int x5)]) hx hb dX7_fix_54 hl (by decide) rfl (fun ls hl => ?_)
    exact uX7_fix_56 X hA hK46 hq hw h _ _ _ hH hS (lv_sub hl [1, 2, 3, 4, 5, 6, 0] rfl)
set_option maxRecDepth 100000 in
set_option maxHeartbeats 4000000 in
theorem uX7_fix_46 {N : Nat} {MC MS zT : Nat} {r : Int32} {T : zS} (X : zX D cy p s m meth c cX7_fix 7 RX7 (some .int)) (hA : ∀ q : Nat, s.heap.size ≤ q → A q)  {S : zS} {z : Nat} {x0 : Nat} {x1 : Int32} {x2 : Int32} {x3 : Int32} {x4 : Int32} {x5 : Int32} {q w : Nat} (hq : q + zT ≤ MC + z) (hw : w + 200 * zT ≤ MS + 200 * z) (h : rlX7_fix_46 N S z x0 x1 x2 x3 x4 x5 = some (r, T, zT)) : zWt D cy A p l e ({ frames := 7, cells := MC, slots := MS, locals := 162 } : Room) s m args below meth c z q w MC MS (zQ D cy A T zT (some (.int r))) S 7 46 [(0, .ref x0), (1, .int x1), (2, .int x2), (3, .int x3), (4, .int x4), (5, .int x5)] [] := by
  unfold rlX7_fix_46 at h
  refine zloop_ind (P := fun y => ∀ (q : Nat) (w : Nat), q + zT ≤ MC + y.2.1 → w + 200 * zT ≤ MS + 200 * y.2.1 → zWt D cy A p l e ({ frames := 7, cells := MC, slots := MS, locals := 162 } : Room) s m args below meth c y.2.1 q w MC MS (zQ D cy A T zT (some (.int r))) y.1 7 46 [(0, .ref y.2.2.1), (1, .int y.2.2.2.1), (2, .int y.2.2.2.2.1), (3, .int y.2.2.2.2.2.1), (4, .int y.2.2.2.2.2.2.1), (5, .int y.2.2.2.2.2.2.2)] []) ?_ N (S, z, x0, x1, x2, x3, x4, x5) h _ _ hq hw
  intro K hK y hy q w hq hw
  obtain ⟨S, z, x0, x1, x2, x3, x4, x5⟩ := y
  exact wX7_fix_46 X hA (fun S z x0 x1 x2 x3 x4 x5 q w hq hw h => hK (S, z, x0, x1, x2, x3, x4, x5) h q w hq hw) hq hw hy
set_option maxRecDepth 100000 in
set_option maxHeartbeats 4000000 in
theorem wX7_fix_16 {N : Nat} {MC MS zT : Nat} {r : Int32} {T : zS} (X : zX D cy p s m meth c cX7_fix 7 RX7 (some .int)) (hA : ∀ q : Nat, s.heap.size ≤ q → A q)  {S : zS} {z : Nat} {q w : Nat} (hq : q + zT ≤ MC + z) (hw : w + 200 * zT ≤ MS + 200 * z) (h : rX7_fix_16 N S z = some (r, T, zT)) : zWt D cy A p l e ({ frames := 7, cells := MC, slots := MS, locals := 162 } : Room) s m args below meth c z q w MC MS (zQ D cy A T zT (some (.int r))) S 7 16 [] [] := by
  obtain ⟨hx, hb, hml, hown, hr, hlocks, hT⟩ := id X
  intro H locs ls hH hS hl
  unfold rX7_fix_16 at h
  obtain ⟨h, hz⟩ := zgeI_some h
  refine lv_iconst (v := (-1 : Int32)) hx hb dX7_fix_16 (by decide) ?_
  exact z_iretZ X hH hS h hq hw dX7_fix_17
set_option maxRecDepth 100000 in
set_option maxHeartbeats 4000000 in
theorem wX7_fix_0 {N : Nat} {MC MS zT : Nat} {r : Int32} {T : zS} (X : zX D cy p s m meth c cX7_fix 7 RX7 (some .int)) (hA : ∀ q : Nat, s.heap.size ≤ q → A q)  {S : zS} {z : Nat} {x0 : Nat} {x1 : Int32} {x2 : Int32} {x3 : Int32} {q w : Nat} (hq : q + zT ≤ MC + z) (hw : w + 200 * zT ≤ MS + 200 * z) (h : rX7_fix_0 N S z x0 x1 x2 x3 = some (r, T, zT)) : zWt D cy A p l e ({ frames := 7, cells := MC, slots := MS, locals := 162 } : Room) s m args below meth c z q w MC MS (zQ D cy A T zT (some (.int r))) S 7 0 [(0, .ref x0), (1, .int x1), (2, .int x2), (3, .int x3)] [] := by
  obtain ⟨hx, hb, hml, hown, hr, hlocks, hT⟩ := id X
  intro H locs ls hH hS hl
  unfold rX7_fix_0 at h
  obtain ⟨h, hz⟩ := zgeI_some h
  refine lv_iload_n hx hb dX7_fix_0 rfl (lv_at hl 1 rfl) ?_
  refine lv_iload_n hx hb dX7_fix_1 rfl (lv_at hl 2 rfl) ?_
  obtain ⟨v8, S7, eS7, h⟩ := zb2_some h
  refine z_cS (As := [.int x1, .int x2]) X hl hH hS mlX7_99 (kX7_areRooms eS7) rfl rfl (Nat.le_of_ble_eq_true rfl) ⟨rfl, rfl, Nat.le_of_ble_eq_true rfl, Nat.le_of_ble_eq_true rfl⟩ (zz_0 hq hw hz) dX7_fix_2 (fun H locs hH hS => ?_)
  refine lv_if_eq (tgt := 16) hx hb dX7_fix_5 (by decide) (fun c => ?_) (fun c => ?_)
  · have h := (if_pos c).symm.trans h
    exact wX7_fix_16 X hA hq hw h _ _ _ hH hS (lv_sub hl [] rfl)
  · have h := (if_neg c).symm.trans h
    refine lv_aload_n hx hb dX7_fix_8 rfl (lv_at hl 0 rfl) ?_
    refine lv_iload_n hx hb dX7_fix_9 rfl (lv_at hl 3 rfl) ?_
    obtain ⟨u9, eu9, h⟩ := zb_some h
    obtain ⟨v11, S10, eS10, h⟩ := zb2_some h
    refine z_cV (As := [.int x3]) X hl hH hS mlX7_122 eu9 (kX7_isStep eS10) rfl rfl (Nat.le_of_ble_eq_true rfl) ⟨rfl, rfl, Nat.le_of_ble_eq_true rfl, Nat.le_of_ble_eq_true rfl⟩ (zz_0 hq hw hz) dX7_fix_10 (fun H locs hH hS => ?_)
    refine lv_if_ne (tgt := 18) hx hb dX7_fix_13 (by decide) (fun c => ?_) (fun c => ?_)
    · have h := (if_neg c).symm.trans h
      refine lv_aload_n hx hb dX7_fix_18 rfl (lv_at hl 0 rfl) ?_
      refine lv_iload_n hx hb dX7_fix_19 rfl (lv_at hl 1 rfl) ?_
      refine lv_iload_n hx hb dX7_fix_20 rfl (lv_at hl 2 rfl) ?_
      refine lv_iload_n hx hb dX7_fix_21 rfl (lv_at hl 3 rfl) ?_
      obtain ⟨u12, eu12, h⟩ := zb_some h
      obtain ⟨S13, z14, eS13, h⟩ := zb2_some h
      obtain ⟨h, hzz14⟩ := zgeI_some h
      have hmz14 := mX7_buildBoth eS13
      refine z_cV (As := [.int x1, .int x2, .int x3]) X hl hH hS mlX7_178 eu12 (kX7_buildBoth (fun q h => hA q (Nat.le_trans (Nat.le_trans hS.1.1 (Nat.le_of_eq hS.2)) h)) eS13) rfl rfl (Nat.le_of_ble_eq_true rfl) ⟨rfl, rfl, Nat.le_of_ble_eq_true rfl, Nat.le_of_ble_eq_true rfl⟩ (zz_f hq hw hmz14 hzz14) dX7_fix_22 (fun H locs hH hS => ?_)
      obtain ⟨hq, hw⟩ := zz_q hq hw hmz14
      have hz := hzz14
      refine lv_aload_n hx hb dX7_fix_25 rfl (lv_at hl 0 rfl) ?_
      obtain ⟨v15, ev15, h⟩ := zb_some h
      refine z_getr X flX7_19 hH ev15 dX7_fix_26 ?_
      obtain ⟨v16, ev16, h⟩ := zb_some h
      refine z_getr X flX7_199 hH ev16 dX7_fix_29 ?_
      refine lv_iload_n hx hb dX7_fix_32 rfl (lv_at hl 3 rfl) ?_
      obtain ⟨v17, ev17, h⟩ := zb_some h
      refine z_iald X hH ev17 dX7_fix_33 ?_
      refine lv_aload_n hx hb dX7_fix_34 rfl (lv_at hl 0 rfl) ?_
      refine lv_iload_n hx hb dX7_fix_35 rfl (lv_at hl 1 rfl) ?_
      refine lv_iload_n hx hb dX7_fix_36 rfl (lv_at hl 2 rfl) ?_
      obtain ⟨u18, eu18, h⟩ := zb_some h
      obtain ⟨v20, S19, eS19, h⟩ := zb2_some h
      refine z_cV (As := [.int x1, .int x2]) X hl hH hS mlX7_103 eu18 (kX7_unlikeWords eS19) rfl rfl (Nat.le_of_ble_eq_true rfl) ⟨rfl, rfl, Nat.le_of_ble_eq_true rfl, Nat.le_of_ble_eq_true rfl⟩ (zz_0 hq hw hz) dX7_fix_37 (fun H locs hH hS => ?_)
      refine lv_iand hx hb dX7_fix_40 ?_
      refine lv_istore (lv' := [(4, .int (v17 &&& v20)), (0, .ref x0), (1, .int x1), (2, .int x2), (3, .int x3)]) hx hb dX7_fix_41 hl (by decide) rfl (fun ls hl => ?_)
      refine lv_iconst (v := (0 : Int32)) hx hb dX7_fix_43 (by decide) ?_
      refine lv_istore (lv' := [(5, .int (0 : Int32)), (4, .int (v17 &&& v20)), (0, .ref x0), (1, .int x1), (2, .int x2), (3, .int x3)]) hx hb dX7_fix_44 hl (by decide) rfl (fun ls hl => ?_)
      exact uX7_fix_46 X hA hq hw h _ _ _ hH hS (lv_sub hl [2, 3, 4, 5, 1, 0] rfl)
    · have h := (if_pos c).symm.trans h
      exact wX7_fix_16 X hA hq hw h _ _ _ hH hS (lv_sub hl [] rfl)
theorem mX7_fix {N : Nat} {zT : Nat} {r : Int32} {T : zS} {S : zS} {z : Nat} {x0 : Nat} {x1 : Int32} {x2 : Int32} {x3 : Int32} (h : rX7_fix N S z x0 x1 x2 x3 = some (r, T, zT)) : z ≤ zT := by
  unfold rX7_fix rX7_fix_0 at h
  exact (zgeI_some h).2
set_option maxRecDepth 100000 in
theorem kX7_fix {N : Nat} {zT : Nat} {r : Int32} {T : zS} {S : zS} {z : Nat} {x0 : Nat} {x1 : Int32} {x2 : Int32} {x3 : Int32} (hA0 : ∀ q : Nat, z ≤ q → A q) (h : rX7_fix N S z x0 x1 x2 x3 = some (r, T, zT)) : Met l yX7_fix [.code yX7_fix cX7_fix 7 (some .int)] ({ frames := 7, cells := zT - z, slots := 200 * (zT - z), locals := 162 } : Room) (zP D cy A S z [.ref x0, .int x1, .int x2, .int x3]) (zQ D cy A T zT (some (.int r))) (zT - z) (200 * (zT - z)) A := by
  have hm := mX7_fix h
  refine z_metA (lv := [(0, .ref x0), (1, .int x1), (2, .int x2), (3, .int x3)]) (by decide) (Nat.le_of_ble_eq_true rfl) rfl ?_
  intro p e s m below meth c X hz H locs ls hH hS hl
  exact wX7_fix_0 X (fun q hq => hA0 q (by rw [← hz]; exact hq)) (zz_s hm).1 (zz_s hm).2 h _ _ _ hH hS (lv_sub hl [0, 1, 2, 3] rfl)
set_option maxRecDepth 100000 in
set_option maxHeartbeats 4000000 in
theorem wX7_firstUnlike_49 {N : Nat} {MC MS zT : Nat} {r : Int32} {T : zS} (X : zX D cy p s m meth c cX7_firstUnlike 6 RX7 (some .int)) (hA : ∀ q : Nat, s.heap.size ≤ q → A q) {K49 : zS × Nat × Nat × Int32 × Int32 × Int32 × Int32 → Option (Int32 × zS × Nat)} (hK49 : ∀ (S : zS) (z : Nat) (x0 : Nat) (x2 : Int32) (x3 : Int32) (x4 : Int32) (x5 : Int32) (q : Nat) (w : Nat), q + zT ≤ MC + z → w + 200 * zT ≤ MS + 200 * z → K49 (S, z, x0, x2, x3, x4, x5) = some (r, T, zT) → zWt D cy A p l e ({ frames := 6, cells := MC, slots := MS, locals := 139 } : Room) s m args below meth c z q w MC MS (zQ D cy A T zT (some (.int r))) S 6 49 [(0, .ref x0), (2, .int x2), (3, .int x3), (4, .int x4), (5, .int x5)] []) {S : zS} {z : Nat} {x0 : Nat} {x2 : Int32} {x3 : Int32} {x4 : Int32} {x5 : Int32} {q w : Nat} (hq : q + zT ≤ MC + z) (hw : w + 200 * zT ≤ MS + 200 * z) (h : rX7_firstUnlike_49 N K49 S z x0 x2 x3 x4 x5 = some (r, T, zT)) : zWt D cy A p l e ({ frames := 6, cells := MC, slots := MS, locals := 139 } : Room) s m args below meth c z q w MC MS (zQ D cy A T zT (some (.int r))) S 6 49 [(0, .ref x0), (2, .int x2), (3, .int x3), (4, .int x4), (5, .int x5)] [] := by
  obtain ⟨hx, hb, hml, hown, hr, hlocks, hT⟩ := id X
  intro H locs ls hH hS hl
  unfold rX7_firstUnlike_49 at h
  obtain ⟨h, hz⟩ := zgeI_some h
  refine lv_iload hx hb dX7_firstUnlike_49 (lv_at hl 4 rfl) ?_
  refine lv_iload hx hb dX7_firstUnlike_51 (lv_at hl 3 rfl) ?_
  refine lv_icmp_gt (tgt := 99) hx hb dX7_firstUnlike_53 (by decide) (fun c => ?_) (fun c => ?_)
  · have h := (if_pos c).symm.trans h
    refine lv_iconst (v := (-1 : Int32)) hx hb dX7_firstUnlike_99 (by decide) ?_
    exact z_iretZ X hH hS h hq hw dX7_firstUnlike_100
  · have h := (if_neg c).symm.trans h
    refine lv_aload_n hx hb dX7_firstUnlike_56 rfl (lv_at hl 0 rfl) ?_
    obtain ⟨v1, ev1, h⟩ := zb_some h
    refine z_getr X flX7_37 hH ev1 dX7_firstUnlike_57 ?_
    refine lv_iload_n hx hb dX7_firstUnlike_60 rfl (lv_at hl 2 rfl) ?_
    refine lv_iload hx hb dX7_firstUnlike_61 (lv_at hl 4 rfl) ?_
    obtain ⟨u2, eu2, h⟩ := zb_some h
    obtain ⟨S3, eS3, h⟩ := zb_some h
    refine z_cV (As := [.int x3, .int x5]) X hl hH hS mlX7_252 eu2 (kX1_turn eS3) rfl rfl (Nat.le_of_ble_eq_true rfl) ⟨rfl, rfl, Nat.le_of_ble_eq_true rfl, Nat.le_of_ble_eq_true rfl⟩ (zz_0 hq hw hz) dX7_firstUnlike_63 (fun H locs hH hS => ?_)
    refine lv_aload_n hx hb dX7_firstUnlike_66 rfl (lv_at hl 0 rfl) ?_
    obtain ⟨v4, ev4, h⟩ := zb_some h
    refine z_getr X flX7_37 hH ev4 dX7_firstUnlike_67 ?_
    refine lv_aload_n hx hb dX7_firstUnlike_70 rfl (lv_at hl 0 rfl) ?_
    obtain ⟨v5, ev5, h⟩ := zb_some h
    refine z_getr X flX7_19 hH ev5 dX7_firstUnlike_71 ?_
    obtain ⟨v6, ev6, h⟩ := zb_some h
    refine z_getr X flX7_153 hH ev6 dX7_firstUnlike_74 ?_
    refine lv_iload_n hx hb dX7_firstUnlike_77 rfl (lv_at hl 1 rfl) ?_
    obtain ⟨v7, ev7, h⟩ := zb_some h
    refine z_iald X hH ev7 dX7_firstUnlike_78 ?_
    obtain ⟨u8, eu8, h⟩ := zb_some h
    obtain ⟨S9, z10, eS9, h⟩ := zb2_some h
    obtain ⟨h, hzz10⟩ := zgeI_some h
    have hmz10 := mX1_make eS9
    refine z_cV (As := [.int v7]) X hl hH hS mlX7_174 eu8 (kX1_make (fun q h => hA q (Nat.le_trans (Nat.le_trans hS.1.1 (Nat.le_of_eq hS.2)) h)) eS9) rfl rfl (Nat.le_of_ble_eq_true rfl) ⟨rfl, rfl, Nat.le_of_ble_eq_true rfl, Nat.le_of_ble_eq_true rfl⟩ (zz_f hq hw hmz10 hzz10) dX7_firstUnlike_79 (fun H locs hH hS => ?_)
    obtain ⟨hq, hw⟩ := zz_q hq hw hmz10
    have hz := hzz10
    refine lv_aload_n hx hb dX7_firstUnlike_82 rfl (lv_at hl 0 rfl) ?_
    refine lv_iload_n hx hb dX7_firstUnlike_83 rfl (lv_at hl 1 rfl) ?_
    obtain ⟨u11, eu11, h⟩ := zb_some h
    obtain ⟨v13, S12, eS12, h⟩ := zb2_some h
    refine z_cV (As := [.int x2]) X hl hH hS mlX7_182 eu11 (kX7_sameThing eS12) rfl rfl (Nat.le_of_ble_eq_true rfl) ⟨rfl, rfl, Nat.le_of_ble_eq_true rfl, Nat.le_of_ble_eq_true rfl⟩ (zz_0 hq hw hz) dX7_firstUnlike_84 (fun H locs hH hS => ?_)
    refine lv_if_ne (tgt := 93) hx hb dX7_firstUnlike_87 (by decide) (fun c => ?_) (fun c => ?_)
    · have h := (if_neg c).symm.trans h
      refine lv_iinc (v := (x5 + (1 : Int32))) (lv' := [(5, .int (x5 + (1 : Int32))), (0, .ref x0), (2, .int x2), (3, .int x3), (4, .int x4)]) hx hb dX7_firstUnlike_93 hl (k := 4) rfl (z_ii (by decide) _) (by decide) rfl (fun ls hl => ?_)
      refine lv_goto (tgt := 49) hx hb dX7_firstUnlike_96 (by decide) ?_
      exact hK49 _ _ _ _ _ _ _ _ _ hq hw h _ _ _ hH hS (lv_sub hl [1, 2, 3, 4, 0] rfl)
    · have h := (if_pos c).symm.trans h
      refine lv_iload hx hb dX7_firstUnlike_90 (lv_at hl 4 rfl) ?_
      exact z_iretZ X hH hS h hq hw dX7_firstUnlike_92
set_option maxRecDepth 100000 in
set_option maxHeartbeats 4000000 in
theorem uX7_firstUnlike_49 {N : Nat} {MC MS zT : Nat} {r : Int32} {T : zS} (X : zX D cy p s m meth c cX7_firstUnlike 6 RX7 (some .int)) (hA : ∀ q : Nat, s.heap.size ≤ q → A q)  {S : zS} {z : Nat} {x0 : Nat} {x2 : Int32} {x3 : Int32} {x4 : Int32} {x5 : Int32} {q w : Nat} (hq : q + zT ≤ MC + z) (hw : w + 200 * zT ≤ MS + 200 * z) (h : rlX7_firstUnlike_49 N S z x0 x2 x3 x4 x5 = some (r, T, zT)) : zWt D cy A p l e ({ frames := 6, cells := MC, slots := MS, locals := 139 } : Room) s m args below meth c z q w MC MS (zQ D cy A T zT (some (.int r))) S 6 49 [(0, .ref x0), (2, .int x2), (3, .int x3), (4, .int x4), (5, .int x5)] [] := by
  unfold rlX7_firstUnlike_49 at h
  refine zloop_ind (P := fun y => ∀ (q : Nat) (w : Nat), q + zT ≤ MC + y.2.1 → w + 200 * zT ≤ MS + 200 * y.2.1 → zWt D cy A p l e ({ frames := 6, cells := MC, slots := MS, locals := 139 } : Room) s m args below meth c y.2.1 q w MC MS (zQ D cy A T zT (some (.int r))) y.1 6 49 [(0, .ref y.2.2.1), (2, .int y.2.2.2.1), (3, .int y.2.2.2.2.1), (4, .int y.2.2.2.2.2.1), (5, .int y.2.2.2.2.2.2)] []) ?_ N (S, z, x0, x2, x3, x4, x5) h _ _ hq hw
  intro K hK y hy q w hq hw
  obtain ⟨S, z, x0, x2, x3, x4, x5⟩ := y
  exact wX7_firstUnlike_49 X hA (fun S z x0 x2 x3 x4 x5 q w hq hw h => hK (S, z, x0, x2, x3, x4, x5) h q w hq hw) hq hw hy
set_option maxRecDepth 100000 in
set_option maxHeartbeats 4000000 in
theorem wX7_firstUnlike_0 {N : Nat} {MC MS zT : Nat} {r : Int32} {T : zS} (X : zX D cy p s m meth c cX7_firstUnlike 6 RX7 (some .int)) (hA : ∀ q : Nat, s.heap.size ≤ q → A q)  {S : zS} {z : Nat} {x0 : Nat} {x1 : Int32} {x2 : Int32} {x3 : Int32} {x4 : Int32} {q w : Nat} (hq : q + zT ≤ MC + z) (hw : w + 200 * zT ≤ MS + 200 * z) (h : rX7_firstUnlike_0 N S z x0 x1 x2 x3 x4 = some (r, T, zT)) : zWt D cy A p l e ({ frames := 6, cells := MC, slots := MS, locals := 139 } : Room) s m args below meth c z q w MC MS (zQ D cy A T zT (some (.int r))) S 6 0 [(0, .ref x0), (1, .int x1), (2, .int x2), (3, .int x3), (4, .int x4)] [] := by
  obtain ⟨hx, hb, hml, hown, hr, hlocks, hT⟩ := id X
  intro H locs ls hH hS hl
  unfold rX7_firstUnlike_0 at h
  obtain ⟨h, hz⟩ := zgeI_some h
  refine lv_aload_n hx hb dX7_firstUnlike_0 rfl (lv_at hl 0 rfl) ?_
  obtain ⟨v14, ev14, h⟩ := zb_some h
  refine z_getr X flX7_19 hH ev14 dX7_firstUnlike_1 ?_
  obtain ⟨v15, ev15, h⟩ := zb_some h
  refine z_getr X flX7_199 hH ev15 dX7_firstUnlike_4 ?_
  refine lv_iload_n hx hb dX7_firstUnlike_7 rfl (lv_at hl 2 rfl) ?_
  obtain ⟨v16, ev16, h⟩ := zb_some h
  refine z_iald X hH ev16 dX7_firstUnlike_8 ?_
  refine lv_iload_n hx hb dX7_firstUnlike_9 rfl (lv_at hl 3 rfl) ?_
  refine lv_iushr hx hb dX7_firstUnlike_10 (zush_eq _ _) ?_
  refine lv_iconst (v := (1 : Int32)) hx hb dX7_firstUnlike_11 (by decide) ?_
  refine lv_iand hx hb dX7_firstUnlike_12 ?_
  refine lv_if_ne (tgt := 18) hx hb dX7_firstUnlike_13 (by decide) (fun c => ?_) (fun c => ?_)
  · have h := (if_neg c).symm.trans h
    refine lv_aload_n hx hb dX7_firstUnlike_18 rfl (lv_at hl 0 rfl) ?_
    obtain ⟨v17, ev17, h⟩ := zb_some h
    refine z_getr X flX7_33 hH ev17 dX7_firstUnlike_19 ?_
    refine lv_aload_n hx hb dX7_firstUnlike_22 rfl (lv_at hl 0 rfl) ?_
    obtain ⟨v18, ev18, h⟩ := zb_some h
    refine z_getr X flX7_25 hH ev18 dX7_firstUnlike_23 ?_
    refine lv_iload_n hx hb dX7_firstUnlike_26 rfl (lv_at hl 1 rfl) ?_
    obtain ⟨v19, ev19, h⟩ := zb_some h
    refine z_aald X hH 13 (by decide) ev19 dX7_firstUnlike_27 ?_
    refine lv_iload_n hx hb dX7_firstUnlike_28 rfl (lv_at hl 2 rfl) ?_
    obtain ⟨u20, eu20, h⟩ := zb_some h
    obtain ⟨S21, z22, eS21, h⟩ := zb2_some h
    obtain ⟨h, hzz22⟩ := zgeI_some h
    have hmz22 := mX1_makeIn eS21
    refine z_cV (As := [.ref v19, .int x2]) X hl hH hS mlX7_138 eu20 (kX1_makeIn (fun q h => hA q (Nat.le_trans (Nat.le_trans hS.1.1 (Nat.le_of_eq hS.2)) h)) eS21) rfl rfl (Nat.le_of_ble_eq_true rfl) ⟨rfl, rfl, Nat.le_of_ble_eq_true rfl, Nat.le_of_ble_eq_true rfl⟩ (zz_f hq hw hmz22 hzz22) dX7_firstUnlike_29 (fun H locs hH hS => ?_)
    obtain ⟨hq, hw⟩ := zz_q hq hw hmz22
    have hz := hzz22
    refine lv_aload_n hx hb dX7_firstUnlike_32 rfl (lv_at hl 0 rfl) ?_
    obtain ⟨v23, ev23, h⟩ := zb_some h
    refine z_getr X flX7_37 hH ev23 dX7_firstUnlike_33 ?_
    refine lv_aload_n hx hb dX7_firstUnlike_36 rfl (lv_at hl 0 rfl) ?_
    obtain ⟨v24, ev24, h⟩ := zb_some h
    refine z_getr X flX7_25 hH ev24 dX7_firstUnlike_37 ?_
    refine lv_iload_n hx hb dX7_firstUnlike_40 rfl (lv_at hl 1 rfl) ?_
    obtain ⟨v25, ev25, h⟩ := zb_some h
    refine z_aald X hH 13 (by decide) ev25 dX7_firstUnlike_41 ?_
    refine lv_iload_n hx hb dX7_firstUnlike_42 rfl (lv_at hl 2 rfl) ?_
    obtain ⟨u26, eu26, h⟩ := zb_some h
    obtain ⟨S27, z28, eS27, h⟩ := zb2_some h
    obtain ⟨h, hzz28⟩ := zgeI_some h
    have hmz28 := mX1_makeIn eS27
    refine z_cV (As := [.ref v25, .int x2]) X hl hH hS mlX7_138 eu26 (kX1_makeIn (fun q h => hA q (Nat.le_trans (Nat.le_trans hS.1.1 (Nat.le_of_eq hS.2)) h)) eS27) rfl rfl (Nat.le_of_ble_eq_true rfl) ⟨rfl, rfl, Nat.le_of_ble_eq_true rfl, Nat.le_of_ble_eq_true rfl⟩ (zz_f hq hw hmz28 hzz28) dX7_firstUnlike_43 (fun H locs hH hS => ?_)
    obtain ⟨hq, hw⟩ := zz_q hq hw hmz28
    have hz := hzz28
    refine lv_iconst (v := (0 : Int32)) hx hb dX7_firstUnlike_46 (by decide) ?_
    refine lv_istore (lv' := [(5, .int (0 : Int32)), (0, .ref x0), (1, .int x1), (2, .int x2), (3, .int x3), (4, .int x4)]) hx hb dX7_firstUnlike_47 hl (by decide) rfl (fun ls hl => ?_)
    exact uX7_firstUnlike_49 X hA hq hw h _ _ _ hH hS (lv_sub hl [1, 3, 4, 5, 0] rfl)
  · have h := (if_pos c).symm.trans h
    refine lv_iconst (v := (-1 : Int32)) hx hb dX7_firstUnlike_16 (by decide) ?_
    exact z_iretZ X hH hS h hq hw dX7_firstUnlike_17
theorem mX7_firstUnlike {N : Nat} {zT : Nat} {r : Int32} {T : zS} {S : zS} {z : Nat} {x0 : Nat} {x1 : Int32} {x2 : Int32} {x3 : Int32} {x4 : Int32} (h : rX7_firstUnlike N S z x0 x1 x2 x3 x4 = some (r, T, zT)) : z ≤ zT := by
  unfold rX7_firstUnlike rX7_firstUnlike_0 at h
  exact (zgeI_some h).2
set_option maxRecDepth 100000 in
theorem kX7_firstUnlike {N : Nat} {zT : Nat} {r : Int32} {T : zS} {S : zS} {z : Nat} {x0 : Nat} {x1 : Int32} {x2 : Int32} {x3 : Int32} {x4 : Int32} (hA0 : ∀ q : Nat, z ≤ q → A q) (h : rX7_firstUnlike N S z x0 x1 x2 x3 x4 = some (r, T, zT)) : Met l yX7_firstUnlike [.code yX7_firstUnlike cX7_firstUnlike 6 (some .int)] ({ frames := 6, cells := zT - z, slots := 200 * (zT - z), locals := 139 } : Room) (zP D cy A S z [.ref x0, .int x1, .int x2, .int x3, .int x4]) (zQ D cy A T zT (some (.int r))) (zT - z) (200 * (zT - z)) A := by
  have hm := mX7_firstUnlike h
  refine z_metA (lv := [(0, .ref x0), (1, .int x1), (2, .int x2), (3, .int x3), (4, .int x4)]) (by decide) (Nat.le_of_ble_eq_true rfl) rfl ?_
  intro p e s m below meth c X hz H locs ls hH hS hl
  exact wX7_firstUnlike_0 X (fun q hq => hA0 q (by rw [← hz]; exact hq)) (zz_s hm).1 (zz_s hm).2 h _ _ _ hH hS (lv_sub hl [0, 1, 2, 3, 4] rfl)
set_option maxRecDepth 100000 in
set_option maxHeartbeats 4000000 in
theorem wX7_stable_55 {N : Nat} {MC MS zT : Nat} {r : Int32} {T : zS} (X : zX D cy p s m meth c cX7_stable 5 RX7 (some .int)) (hA : ∀ q : Nat, s.heap.size ≤ q → A q)  {S : zS} {z : Nat} {y0 : Int32} {q w : Nat} (hq : q + zT ≤ MC + z) (hw : w + 200 * zT ≤ MS + 200 * z) (h : rX7_stable_55 N S z y0 = some (r, T, zT)) : zWt D cy A p l e ({ frames := 7, cells := MC, slots := MS, locals := 164 } : Room) s m args below meth c z q w MC MS (zQ D cy A T zT (some (.int r))) S 5 55 [] [.int y0] := by
  obtain ⟨hx, hb, hml, hown, hr, hlocks, hT⟩ := id X
  intro H locs ls hH hS hl
  unfold rX7_stable_55 at h
  obtain ⟨h, hz⟩ := zgeI_some h
  exact z_iretZ X hH hS h hq hw dX7_stable_55
set_option maxRecDepth 100000 in
set_option maxHeartbeats 4000000 in
theorem wX7_stable_35 {N : Nat} {MC MS zT : Nat} {r : Int32} {T : zS} (X : zX D cy p s m meth c cX7_stable 5 RX7 (some .int)) (hA : ∀ q : Nat, s.heap.size ≤ q → A q)  {S : zS} {z : Nat} {q w : Nat} (hq : q + zT ≤ MC + z) (hw : w + 200 * zT ≤ MS + 200 * z) (h : rX7_stable_35 N S z = some (r, T, zT)) : zWt D cy A p l e ({ frames := 7, cells := MC, slots := MS, locals := 164 } : Room) s m args below meth c z q w MC MS (zQ D cy A T zT (some (.int r))) S 5 35 [] [] := by
  obtain ⟨hx, hb, hml, hown, hr, hlocks, hT⟩ := id X
  intro H locs ls hH hS hl
  unfold rX7_stable_35 at h
  obtain ⟨h, hz⟩ := zgeI_some h
  refine lv_iconst (v := (-1 : Int32)) hx hb dX7_stable_35 (by decide) ?_
  exact z_iretZ X hH hS h hq hw dX7_stable_36
set_option maxRecDepth 100000 in
set_option maxHeartbeats 4000000 in
theorem wX7_stable_0 {N : Nat} {MC MS zT : Nat} {r : Int32} {T : zS} (X : zX D cy p s m meth c cX7_stable 5 RX7 (some .int)) (hA : ∀ q : Nat, s.heap.size ≤ q → A q)  {S : zS} {z : Nat} {x0 : Nat} {x1 : Int32} {x2 : Int32} {x3 : Int32} {x4 : Int32} {q w : Nat} (hq : q + zT ≤ MC + z) (hw : w + 200 * zT ≤ MS + 200 * z) (h : rX7_stable_0 N S z x0 x1 x2 x3 x4 = some (r, T, zT)) : zWt D cy A p l e ({ frames := 7, cells := MC, slots := MS, locals := 164 } : Room) s m args below meth c z q w MC MS (zQ D cy A T zT (some (.int r))) S 5 0 [(0, .ref x0), (1, .int x1), (2, .int x2), (3, .int x3), (4, .int x4)] [] := by
  obtain ⟨hx, hb, hml, hown, hr, hlocks, hT⟩ := id X
  intro H locs ls hH hS hl
  unfold rX7_stable_0 at h
  obtain ⟨h, hz⟩ := zgeI_some h
  refine lv_iload_n hx hb dX7_stable_0 rfl (lv_at hl 1 rfl) ?_
  obtain ⟨v2, S1, eS1, h⟩ := zb2_some h
  refine z_cS (As := [.int x1]) X hl hH hS mlX7_93 (kX7_isRoom eS1) rfl rfl (Nat.le_of_ble_eq_true rfl) ⟨rfl, rfl, Nat.le_of_ble_eq_true rfl, Nat.le_of_ble_eq_true rfl⟩ (zz_0 hq hw hz) dX7_stable_1 (fun H locs hH hS => ?_)
  refine lv_if_eq (tgt := 35) hx hb dX7_stable_4 (by decide) (fun c => ?_) (fun c => ?_)
  · have h := (if_pos c).symm.trans h
    exact wX7_stable_35 X hA hq hw h _ _ _ hH hS (lv_sub hl [] rfl)
  · have h := (if_neg c).symm.trans h
    refine lv_aload_n hx hb dX7_stable_7 rfl (lv_at hl 0 rfl) ?_
    refine lv_iload_n hx hb dX7_stable_8 rfl (lv_at hl 2 rfl) ?_
    obtain ⟨u3, eu3, h⟩ := zb_some h
    obtain ⟨v5, S4, eS4, h⟩ := zb2_some h
    refine z_cV (As := [.int x2]) X hl hH hS mlX7_122 eu3 (kX7_isStep eS4) rfl rfl (Nat.le_of_ble_eq_true rfl) ⟨rfl, rfl, Nat.le_of_ble_eq_true rfl, Nat.le_of_ble_eq_true rfl⟩ (zz_0 hq hw hz) dX7_stable_9 (fun H locs hH hS => ?_)
    refine lv_if_eq (tgt := 35) hx hb dX7_stable_12 (by decide) (fun c => ?_) (fun c => ?_)
    · have h := (if_pos c).symm.trans h
      exact wX7_stable_35 X hA hq hw h _ _ _ hH hS (lv_sub hl [] rfl)
    · have h := (if_neg c).symm.trans h
      refine lv_iload_n hx hb dX7_stable_15 rfl (lv_at hl 3 rfl) ?_
      obtain ⟨v7, S6, eS6, h⟩ := zb2_some h
      refine z_cS (As := [.int x3]) X hl hH hS mlX7_96 (kX7_isWord eS6) rfl rfl (Nat.le_of_ble_eq_true rfl) ⟨rfl, rfl, Nat.le_of_ble_eq_true rfl, Nat.le_of_ble_eq_true rfl⟩ (zz_0 hq hw hz) dX7_stable_16 (fun H locs hH hS => ?_)
      refine lv_if_eq (tgt := 35) hx hb dX7_stable_19 (by decide) (fun c => ?_) (fun c => ?_)
      · have h := (if_pos c).symm.trans h
        exact wX7_stable_35 X hA hq hw h _ _ _ hH hS (lv_sub hl [] rfl)
      · have h := (if_neg c).symm.trans h
        refine lv_iload hx hb dX7_stable_22 (lv_at hl 4 rfl) ?_
        refine lv_if_lt (tgt := 35) hx hb dX7_stable_24 (by decide) (fun c => ?_) (fun c => ?_)
        · have h := (if_pos c).symm.trans h
          exact wX7_stable_35 X hA hq hw h _ _ _ hH hS (lv_sub hl [] rfl)
        · have h := (if_neg c).symm.trans h
          refine lv_iload hx hb dX7_stable_27 (lv_at hl 4 rfl) ?_
          refine lv_sipush (v := (255 : Int32)) hx hb dX7_stable_29 (by decide) ?_
          refine lv_icmp_le (tgt := 37) hx hb dX7_stable_32 (by decide) (fun c => ?_) (fun c => ?_)
          · have h := (if_pos c).symm.trans h
            refine lv_aload_n hx hb dX7_stable_37 rfl (lv_at hl 0 rfl) ?_
            refine lv_iload_n hx hb dX7_stable_38 rfl (lv_at hl 1 rfl) ?_
            refine lv_iload_n hx hb dX7_stable_39 rfl (lv_at hl 2 rfl) ?_
            refine lv_iload_n hx hb dX7_stable_40 rfl (lv_at hl 3 rfl) ?_
            refine lv_iload hx hb dX7_stable_41 (lv_at hl 4 rfl) ?_
            obtain ⟨u8, eu8, h⟩ := zb_some h
            obtain ⟨v11, S9, z10, eS9, h⟩ := zb3_some h
            obtain ⟨h, hzz10⟩ := zgeI_some h
            have hmz10 := mX7_firstUnlike eS9
            refine z_cV (As := [.int x1, .int x2, .int x3, .int x4]) X hl hH hS mlX7_210 eu8 (kX7_firstUnlike (fun q h => hA q (Nat.le_trans (Nat.le_trans hS.1.1 (Nat.le_of_eq hS.2)) h)) eS9) rfl rfl (Nat.le_of_ble_eq_true rfl) ⟨rfl, rfl, Nat.le_of_ble_eq_true rfl, Nat.le_of_ble_eq_true rfl⟩ (zz_f hq hw hmz10 hzz10) dX7_stable_43 (fun H locs hH hS => ?_)
            obtain ⟨hq, hw⟩ := zz_q hq hw hmz10
            have hz := hzz10
            refine lv_iconst (v := (-1 : Int32)) hx hb dX7_stable_46 (by decide) ?_
            refine lv_icmp_ne (tgt := 54) hx hb dX7_stable_47 (by decide) (fun c => ?_) (fun c => ?_)
            · have h := (if_neg c).symm.trans h
              refine lv_iconst (v := (0 : Int32)) hx hb dX7_stable_54 (by decide) ?_
              exact wX7_stable_55 X hA hq hw h _ _ _ hH hS (lv_sub hl [] rfl)
            · have h := (if_pos c).symm.trans h
              refine lv_iconst (v := (1 : Int32)) hx hb dX7_stable_50 (by decide) ?_
              refine lv_goto (tgt := 55) hx hb dX7_stable_51 (by decide) ?_
              exact wX7_stable_55 X hA hq hw h _ _ _ hH hS (lv_sub hl [] rfl)
          · have h := (if_neg c).symm.trans h
            exact wX7_stable_35 X hA hq hw h _ _ _ hH hS (lv_sub hl [] rfl)
theorem mX7_stable {N : Nat} {zT : Nat} {r : Int32} {T : zS} {S : zS} {z : Nat} {x0 : Nat} {x1 : Int32} {x2 : Int32} {x3 : Int32} {x4 : Int32} (h : rX7_stable N S z x0 x1 x2 x3 x4 = some (r, T, zT)) : z ≤ zT := by
  unfold rX7_stable rX7_stable_0 at h
  exact (zgeI_some h).2
set_option maxRecDepth 100000 in
theorem kX7_stable {N : Nat} {zT : Nat} {r : Int32} {T : zS} {S : zS} {z : Nat} {x0 : Nat} {x1 : Int32} {x2 : Int32} {x3 : Int32} {x4 : Int32} (hA0 : ∀ q : Nat, z ≤ q → A q) (h : rX7_stable N S z x0 x1 x2 x3 x4 = some (r, T, zT)) : Met l yX7_stable [.code yX7_stable cX7_stable 5 (some .int)] ({ frames := 7, cells := zT - z, slots := 200 * (zT - z), locals := 164 } : Room) (zP D cy A S z [.ref x0, .int x1, .int x2, .int x3, .int x4]) (zQ D cy A T zT (some (.int r))) (zT - z) (200 * (zT - z)) A := by
  have hm := mX7_stable h
  refine z_metA (lv := [(0, .ref x0), (1, .int x1), (2, .int x2), (3, .int x3), (4, .int x4)]) (by decide) (Nat.le_of_ble_eq_true rfl) rfl ?_
  intro p e s m below meth c X hz H locs ls hH hS hl
  exact wX7_stable_0 X (fun q hq => hA0 q (by rw [← hz]; exact hq)) (zz_s hm).1 (zz_s hm).2 h _ _ _ hH hS (lv_sub hl [0, 1, 2, 3, 4] rfl)
end
