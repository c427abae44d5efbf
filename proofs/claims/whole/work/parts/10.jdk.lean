section
variable {D : va_G} {cy : Nat → ClassId} {A : Nat → Prop} {p : Program} {l : Launch} {e : Env} {s : State} {m : MethodId} {args : Array Value} {below : List Frame} {meth : Method} {c : Code}
set_option maxRecDepth 100000 in
set_option maxHeartbeats 4000000 in
theorem wJ7_fill_53178_5 {z : Nat} {N : Nat} {T : zS} (X : zX D cy p s m meth c cJ7_fill_53178 4 RJ7 none) {K5 : zS × Nat × Int32 × Int32 × Int32 → Option (zS)} (hK5 : ∀ (S : zS) (x0 : Nat) (x1 : Int32) (x2 : Int32) (x3 : Int32), K5 (S, x0, x1, x2, x3) = some T → zWt D cy A p l e { frames := 0, cells := 0, slots := 0, locals := 0 } s m args below meth c z 0 0 0 0 (zQ D cy A T z none) S 4 5 [(0, .ref x0), (1, .int x1), (2, .int x2), (3, .int x3)] []) {S : zS} {x0 : Nat} {x1 : Int32} {x2 : Int32} {x3 : Int32} (h : fJ7_fill_53178_5 N K5 S x0 x1 x2 x3 = some T) : zWt D cy A p l e { frames := 0, cells := 0, slots := 0, locals := 0 } s m args below meth c z 0 0 0 0 (zQ D cy A T z none) S 4 5 [(0, .ref x0), (1, .int x1), (2, .int x2), (3, .int x3)] [] := by
  obtain ⟨hx, hb, hml, hown, hr, hlocks, hT⟩ := id X
  intro H locs ls hH hS hl
  unfold fJ7_fill_53178_5 at h
  refine lv_iload_n hx hb dJ7_fill_53178_5 rfl (lv_at hl 2 rfl) ?_
  refine lv_iload_n hx hb dJ7_fill_53178_6 rfl (lv_at hl 3 rfl) ?_
  refine lv_icmp_ge (tgt := 20) hx hb dJ7_fill_53178_7 (by decide) (fun c => ?_) (fun c => ?_)
  · have h := (if_pos c).symm.trans h
    exact z_vret X hH hS h dJ7_fill_53178_20
  · have h := (if_neg c).symm.trans h
    refine lv_aload_n hx hb dJ7_fill_53178_10 rfl (lv_at hl 0 rfl) ?_
    refine lv_iload_n hx hb dJ7_fill_53178_11 rfl (lv_at hl 2 rfl) ?_
    refine lv_iload_n hx hb dJ7_fill_53178_12 rfl (lv_at hl 1 rfl) ?_
    obtain ⟨S1, eS1, h⟩ := zb_some h
    refine z_iast X hH hS eS1 dJ7_fill_53178_13 (fun H locs hH hS => ?_)
    refine lv_iinc (v := (x2 + (1 : Int32))) (lv' := [(2, .int (x2 + (1 : Int32))), (0, .ref x0), (1, .int x1), (3, .int x3)]) hx hb dJ7_fill_53178_14 hl (k := 2) rfl (z_ii (by decide) _) (by decide) rfl (fun ls hl => ?_)
    refine lv_goto (tgt := 5) hx hb dJ7_fill_53178_17 (by decide) ?_
    exact hK5 _ _ _ _ _ h _ _ _ hH hS (lv_sub hl [1, 2, 0, 3] rfl)
set_option maxRecDepth 100000 in
set_option maxHeartbeats 4000000 in
theorem uJ7_fill_53178_5 {z : Nat} {N : Nat} {T : zS} (X : zX D cy p s m meth c cJ7_fill_53178 4 RJ7 none)  {S : zS} {x0 : Nat} {x1 : Int32} {x2 : Int32} {x3 : Int32} (h : lJ7_fill_53178_5 N S x0 x1 x2 x3 = some T) : zWt D cy A p l e { frames := 0, cells := 0, slots := 0, locals := 0 } s m args below meth c z 0 0 0 0 (zQ D cy A T z none) S 4 5 [(0, .ref x0), (1, .int x1), (2, .int x2), (3, .int x3)] [] := by
  unfold lJ7_fill_53178_5 at h
  refine zloop_ind (P := fun y => zWt D cy A p l e { frames := 0, cells := 0, slots := 0, locals := 0 } s m args below meth c z 0 0 0 0 (zQ D cy A T z none) y.1 4 5 [(0, .ref y.2.1), (1, .int y.2.2.1), (2, .int y.2.2.2.1), (3, .int y.2.2.2.2)] []) ?_ N (S, x0, x1, x2, x3) h
  intro K hK y hy
  obtain ⟨S, x0, x1, x2, x3⟩ := y
  exact wJ7_fill_53178_5 X (fun S x0 x1 x2 x3 hq => hK (S, x0, x1, x2, x3) hq) hy
set_option maxRecDepth 100000 in
set_option maxHeartbeats 4000000 in
theorem wJ7_fill_53178_0 {z : Nat} {N : Nat} {T : zS} (X : zX D cy p s m meth c cJ7_fill_53178 4 RJ7 none)  {S : zS} {x0 : Nat} {x1 : Int32} (h : fJ7_fill_53178_0 N S x0 x1 = some T) : zWt D cy A p l e { frames := 0, cells := 0, slots := 0, locals := 0 } s m args below meth c z 0 0 0 0 (zQ D cy A T z none) S 4 0 [(0, .ref x0), (1, .int x1)] [] := by
  obtain ⟨hx, hb, hml, hown, hr, hlocks, hT⟩ := id X
  intro H locs ls hH hS hl
  unfold fJ7_fill_53178_0 at h
  refine lv_iconst (v := (0 : Int32)) hx hb dJ7_fill_53178_0 (by decide) ?_
  refine lv_istore_n (lv' := [(2, .int (0 : Int32)), (0, .ref x0), (1, .int x1)]) hx hb dJ7_fill_53178_1 rfl hl (by decide) rfl (fun ls hl => ?_)
  refine lv_aload_n hx hb dJ7_fill_53178_2 rfl (lv_at hl 1 rfl) ?_
  obtain ⟨v2, ev2, h⟩ := zb_some h
  refine z_alen X hH 9 (by decide) ev2 dJ7_fill_53178_3 ?_
  refine lv_istore_n (lv' := [(3, .int v2), (2, .int (0 : Int32)), (0, .ref x0), (1, .int x1)]) hx hb dJ7_fill_53178_4 rfl hl (by decide) rfl (fun ls hl => ?_)
  exact uJ7_fill_53178_5 X h _ _ _ hH hS (lv_sub hl [2, 3, 1, 0] rfl)
set_option maxRecDepth 100000 in
theorem kJ7_fill_53178 {N : Nat} {T : zS} {S : zS} {z : Nat} {x0 : Nat} {x1 : Int32} (h : fJ7_fill_53178 N S x0 x1 = some T) : Met l yJ7_fill_53178 [.code yJ7_fill_53178 cJ7_fill_53178 4 none] { frames := 0, cells := 0, slots := 0, locals := 0 } (zP D cy A S z [.ref x0, .int x1]) (zQ D cy A T z none) 0 0 A := by
  refine z_met (lv := [(0, .ref x0), (1, .int x1)]) (by decide) (Nat.le_of_ble_eq_true rfl) rfl ?_
  intro p e s m below meth c X H locs ls hH hS hl
  exact wJ7_fill_53178_0 X h _ _ _ hH hS (lv_sub hl [0, 1] rfl)
set_option maxRecDepth 100000 in
set_option maxHeartbeats 4000000 in
theorem wJ6_bitCount_0f7a4_0 {z : Nat} {N : Nat} {r : Int32} {T : zS} (X : zX D cy p s m meth c cJ6_bitCount_0f7a4 1 RJ6 (some .int))  {S : zS} {x0 : Int32} (h : fJ6_bitCount_0f7a4_0 N S x0 = some (r, T)) : zWt D cy A p l e { frames := 0, cells := 0, slots := 0, locals := 0 } s m args below meth c z 0 0 0 0 (zQ D cy A T z (some (.int r))) S 1 0 [(0, .int x0)] [] := by
  obtain ⟨hx, hb, hml, hown, hr, hlocks, hT⟩ := id X
  intro H locs ls hH hS hl
  unfold fJ6_bitCount_0f7a4_0 at h
  refine lv_iload_n hx hb dJ6_bitCount_0f7a4_0 rfl (lv_at hl 0 rfl) ?_
  refine lv_iload_n hx hb dJ6_bitCount_0f7a4_1 rfl (lv_at hl 0 rfl) ?_
  refine lv_iconst (v := (1 : Int32)) hx hb dJ6_bitCount_0f7a4_2 (by decide) ?_
  refine lv_iushr hx hb dJ6_bitCount_0f7a4_3 (zush_eq _ _) ?_
  refine lv_ldcw (v := (1431655765 : Int32)) hx hb hown (X.ts _ ctJ6_265) dJ6_bitCount_0f7a4_4 ?_
  refine lv_iand hx hb dJ6_bitCount_0f7a4_7 ?_
  refine lv_isub hx hb dJ6_bitCount_0f7a4_8 ?_
  refine lv_topi (fun v1 ev1 => ?_)
  have h := zlet_at ev1 h
  refine lv_istore_n (lv' := [(0, .int v1)]) hx hb dJ6_bitCount_0f7a4_9 rfl hl (by decide) rfl (fun ls hl => ?_)
  refine lv_iload_n hx hb dJ6_bitCount_0f7a4_10 rfl (lv_at hl 0 rfl) ?_
  refine lv_ldcw (v := (858993459 : Int32)) hx hb hown (X.ts _ ctJ6_266) dJ6_bitCount_0f7a4_11 ?_
  refine lv_iand hx hb dJ6_bitCount_0f7a4_14 ?_
  refine lv_iload_n hx hb dJ6_bitCount_0f7a4_15 rfl (lv_at hl 0 rfl) ?_
  refine lv_iconst (v := (2 : Int32)) hx hb dJ6_bitCount_0f7a4_16 (by decide) ?_
  refine lv_iushr hx hb dJ6_bitCount_0f7a4_17 (zush_eq _ _) ?_
  refine lv_ldcw (v := (858993459 : Int32)) hx hb hown (X.ts _ ctJ6_266) dJ6_bitCount_0f7a4_18 ?_
  refine lv_iand hx hb dJ6_bitCount_0f7a4_21 ?_
  refine lv_iadd hx hb dJ6_bitCount_0f7a4_22 ?_
  refine lv_topi (fun v2 ev2 => ?_)
  have h := zlet_at ev2 h
  refine lv_istore_n (lv' := [(0, .int v2)]) hx hb dJ6_bitCount_0f7a4_23 rfl hl (by decide) rfl (fun ls hl => ?_)
  refine lv_iload_n hx hb dJ6_bitCount_0f7a4_24 rfl (lv_at hl 0 rfl) ?_
  refine lv_iload_n hx hb dJ6_bitCount_0f7a4_25 rfl (lv_at hl 0 rfl) ?_
  refine lv_iconst (v := (4 : Int32)) hx hb dJ6_bitCount_0f7a4_26 (by decide) ?_
  refine lv_iushr hx hb dJ6_bitCount_0f7a4_27 (zush_eq _ _) ?_
  refine lv_iadd hx hb dJ6_bitCount_0f7a4_28 ?_
  refine lv_ldcw (v := (252645135 : Int32)) hx hb hown (X.ts _ ctJ6_267) dJ6_bitCount_0f7a4_29 ?_
  refine lv_iand hx hb dJ6_bitCount_0f7a4_32 ?_
  refine lv_topi (fun v3 ev3 => ?_)
  have h := zlet_at ev3 h
  refine lv_istore_n (lv' := [(0, .int v3)]) hx hb dJ6_bitCount_0f7a4_33 rfl hl (by decide) rfl (fun ls hl => ?_)
  refine lv_iload_n hx hb dJ6_bitCount_0f7a4_34 rfl (lv_at hl 0 rfl) ?_
  refine lv_iload_n hx hb dJ6_bitCount_0f7a4_35 rfl (lv_at hl 0 rfl) ?_
  refine lv_bipush (v := (8 : Int32)) hx hb dJ6_bitCount_0f7a4_36 (by decide) ?_
  refine lv_iushr hx hb dJ6_bitCount_0f7a4_38 (zush_eq _ _) ?_
  refine lv_iadd hx hb dJ6_bitCount_0f7a4_39 ?_
  refine lv_topi (fun v4 ev4 => ?_)
  have h := zlet_at ev4 h
  refine lv_istore_n (lv' := [(0, .int v4)]) hx hb dJ6_bitCount_0f7a4_40 rfl hl (by decide) rfl (fun ls hl => ?_)
  refine lv_iload_n hx hb dJ6_bitCount_0f7a4_41 rfl (lv_at hl 0 rfl) ?_
  refine lv_iload_n hx hb dJ6_bitCount_0f7a4_42 rfl (lv_at hl 0 rfl) ?_
  refine lv_bipush (v := (16 : Int32)) hx hb dJ6_bitCount_0f7a4_43 (by decide) ?_
  refine lv_iushr hx hb dJ6_bitCount_0f7a4_45 (zush_eq _ _) ?_
  refine lv_iadd hx hb dJ6_bitCount_0f7a4_46 ?_
  refine lv_topi (fun v5 ev5 => ?_)
  have h := zlet_at ev5 h
  refine lv_istore_n (lv' := [(0, .int v5)]) hx hb dJ6_bitCount_0f7a4_47 rfl hl (by decide) rfl (fun ls hl => ?_)
  refine lv_iload_n hx hb dJ6_bitCount_0f7a4_48 rfl (lv_at hl 0 rfl) ?_
  refine lv_bipush (v := (63 : Int32)) hx hb dJ6_bitCount_0f7a4_49 (by decide) ?_
  refine lv_iand hx hb dJ6_bitCount_0f7a4_51 ?_
  exact z_iret X hH hS h dJ6_bitCount_0f7a4_52
set_option maxRecDepth 100000 in
theorem kJ6_bitCount_0f7a4 {N : Nat} {r : Int32} {T : zS} {S : zS} {z : Nat} {x0 : Int32} (h : fJ6_bitCount_0f7a4 N S x0 = some (r, T)) : Met l yJ6_bitCount_0f7a4 [.code yJ6_bitCount_0f7a4 cJ6_bitCount_0f7a4 1 (some .int)] { frames := 0, cells := 0, slots := 0, locals := 0 } (zP D cy A S z [.int x0]) (zQ D cy A T z (some (.int r))) 0 0 A := by
  refine z_met (lv := [(0, .int x0)]) (by decide) (Nat.le_of_ble_eq_true rfl) rfl ?_
  intro p e s m below meth c X H locs ls hH hS hl
  exact wJ6_bitCount_0f7a4_0 X h _ _ _ hH hS (lv_sub hl [0] rfl)
set_option maxRecDepth 100000 in
set_option maxHeartbeats 4000000 in
theorem wJ7_fill_d0a16_6 {z : Nat} {N : Nat} {T : zS} (X : zX D cy p s m meth c cJ7_fill_d0a16 5 RJ7 none) {K6 : zS × Nat × Int64 × Int32 × Int32 → Option (zS)} (hK6 : ∀ (S : zS) (x0 : Nat) (x1 : Int64) (x3 : Int32) (x4 : Int32), K6 (S, x0, x1, x3, x4) = some T → zWt D cy A p l e { frames := 0, cells := 0, slots := 0, locals := 0 } s m args below meth c z 0 0 0 0 (zQ D cy A T z none) S 5 6 [(0, .ref x0), (1, .long x1), (3, .int x3), (4, .int x4)] []) {S : zS} {x0 : Nat} {x1 : Int64} {x3 : Int32} {x4 : Int32} (h : fJ7_fill_d0a16_6 N K6 S x0 x1 x3 x4 = some T) : zWt D cy A p l e { frames := 0, cells := 0, slots := 0, locals := 0 } s m args below meth c z 0 0 0 0 (zQ D cy A T z none) S 5 6 [(0, .ref x0), (1, .long x1), (3, .int x3), (4, .int x4)] [] := by
  obtain ⟨hx, hb, hml, hown, hr, hlocks, hT⟩ := id X
  intro H locs ls hH hS hl
  unfold fJ7_fill_d0a16_6 at h
  refine lv_iload_n hx hb dJ7_fill_d0a16_6 rfl (lv_at hl 2 rfl) ?_
  refine lv_iload hx hb dJ7_fill_d0a16_7 (lv_at hl 3 rfl) ?_
  refine lv_icmp_ge (tgt := 22) hx hb dJ7_fill_d0a16_9 (by decide) (fun c => ?_) (fun c => ?_)
  · have h := (if_pos c).symm.trans h
    exact z_vret X hH hS h dJ7_fill_d0a16_22
  · have h := (if_neg c).symm.trans h
    refine lv_aload_n hx hb dJ7_fill_d0a16_12 rfl (lv_at hl 0 rfl) ?_
    refine lv_iload_n hx hb dJ7_fill_d0a16_13 rfl (lv_at hl 2 rfl) ?_
    refine lv_lload_n hx hb dJ7_fill_d0a16_14 rfl (lv_at hl 1 rfl) ?_
    obtain ⟨S1, eS1, h⟩ := zb_some h
    refine z_last X hH hS eS1 dJ7_fill_d0a16_15 (fun H locs hH hS => ?_)
    refine lv_iinc (v := (x3 + (1 : Int32))) (lv' := [(3, .int (x3 + (1 : Int32))), (0, .ref x0), (1, .long x1), (4, .int x4)]) hx hb dJ7_fill_d0a16_16 hl (k := 2) rfl (z_ii (by decide) _) (by decide) rfl (fun ls hl => ?_)
    refine lv_goto (tgt := 6) hx hb dJ7_fill_d0a16_19 (by decide) ?_
    exact hK6 _ _ _ _ _ h _ _ _ hH hS (lv_sub hl [1, 2, 0, 3] rfl)
set_option maxRecDepth 100000 in
set_option maxHeartbeats 4000000 in
theorem uJ7_fill_d0a16_6 {z : Nat} {N : Nat} {T : zS} (X : zX D cy p s m meth c cJ7_fill_d0a16 5 RJ7 none)  {S : zS} {x0 : Nat} {x1 : Int64} {x3 : Int32} {x4 : Int32} (h : lJ7_fill_d0a16_6 N S x0 x1 x3 x4 = some T) : zWt D cy A p l e { frames := 0, cells := 0, slots := 0, locals := 0 } s m args below meth c z 0 0 0 0 (zQ D cy A T z none) S 5 6 [(0, .ref x0), (1, .long x1), (3, .int x3), (4, .int x4)] [] := by
  unfold lJ7_fill_d0a16_6 at h
  refine zloop_ind (P := fun y => zWt D cy A p l e { frames := 0, cells := 0, slots := 0, locals := 0 } s m args below meth c z 0 0 0 0 (zQ D cy A T z none) y.1 5 6 [(0, .ref y.2.1), (1, .long y.2.2.1), (3, .int y.2.2.2.1), (4, .int y.2.2.2.2)] []) ?_ N (S, x0, x1, x3, x4) h
  intro K hK y hy
  obtain ⟨S, x0, x1, x3, x4⟩ := y
  exact wJ7_fill_d0a16_6 X (fun S x0 x1 x3 x4 hq => hK (S, x0, x1, x3, x4) hq) hy
set_option maxRecDepth 100000 in
set_option maxHeartbeats 4000000 in
theorem wJ7_fill_d0a16_0 {z : Nat} {N : Nat} {T : zS} (X : zX D cy p s m meth c cJ7_fill_d0a16 5 RJ7 none)  {S : zS} {x0 : Nat} {x1 : Int64} (h : fJ7_fill_d0a16_0 N S x0 x1 = some T) : zWt D cy A p l e { frames := 0, cells := 0, slots := 0, locals := 0 } s m args below meth c z 0 0 0 0 (zQ D cy A T z none) S 5 0 [(0, .ref x0), (1, .long x1)] [] := by
  obtain ⟨hx, hb, hml, hown, hr, hlocks, hT⟩ := id X
  intro H locs ls hH hS hl
  unfold fJ7_fill_d0a16_0 at h
  refine lv_iconst (v := (0 : Int32)) hx hb dJ7_fill_d0a16_0 (by decide) ?_
  refine lv_istore_n (lv' := [(3, .int (0 : Int32)), (0, .ref x0), (1, .long x1)]) hx hb dJ7_fill_d0a16_1 rfl hl (by decide) rfl (fun ls hl => ?_)
  refine lv_aload_n hx hb dJ7_fill_d0a16_2 rfl (lv_at hl 1 rfl) ?_
  obtain ⟨v2, ev2, h⟩ := zb_some h
  refine z_alen X hH 10 (by decide) ev2 dJ7_fill_d0a16_3 ?_
  refine lv_istore (lv' := [(4, .int v2), (3, .int (0 : Int32)), (0, .ref x0), (1, .long x1)]) hx hb dJ7_fill_d0a16_4 hl (by decide) rfl (fun ls hl => ?_)
  exact uJ7_fill_d0a16_6 X h _ _ _ hH hS (lv_sub hl [2, 3, 1, 0] rfl)
set_option maxRecDepth 100000 in
theorem kJ7_fill_d0a16 {N : Nat} {T : zS} {S : zS} {z : Nat} {x0 : Nat} {x1 : Int64} (h : fJ7_fill_d0a16 N S x0 x1 = some T) : Met l yJ7_fill_d0a16 [.code yJ7_fill_d0a16 cJ7_fill_d0a16 5 none] { frames := 0, cells := 0, slots := 0, locals := 0 } (zP D cy A S z [.ref x0, .long x1]) (zQ D cy A T z none) 0 0 A := by
  refine z_met (lv := [(0, .ref x0), (1, .long x1)]) (by decide) (Nat.le_of_ble_eq_true rfl) rfl ?_
  intro p e s m below meth c X H locs ls hH hS hl
  exact wJ7_fill_d0a16_0 X h _ _ _ hH hS (lv_sub hl [0, 1] rfl)
set_option maxRecDepth 100000 in
set_option maxHeartbeats 4000000 in
theorem wJ6_numberOfTrailingZeros_0f7a4_74 {z : Nat} {N : Nat} {r : Int32} {T : zS} (X : zX D cy p s m meth c cJ6_numberOfTrailingZeros_0f7a4 2 RJ6 (some .int))  {S : zS} {x0 : Int32} {x1 : Int32} (h : fJ6_numberOfTrailingZeros_0f7a4_74 N S x0 x1 = some (r, T)) : zWt D cy A p l e { frames := 0, cells := 0, slots := 0, locals := 0 } s m args below meth c z 0 0 0 0 (zQ D cy A T z (some (.int r))) S 2 74 [(0, .int x0), (1, .int x1)] [] := by
  obtain ⟨hx, hb, hml, hown, hr, hlocks, hT⟩ := id X
  intro H locs ls hH hS hl
  unfold fJ6_numberOfTrailingZeros_0f7a4_74 at h
  refine lv_iload_n hx hb dJ6_numberOfTrailingZeros_0f7a4_74 rfl (lv_at hl 1 rfl) ?_
  refine lv_iload_n hx hb dJ6_numberOfTrailingZeros_0f7a4_75 rfl (lv_at hl 0 rfl) ?_
  refine lv_iconst (v := (1 : Int32)) hx hb dJ6_numberOfTrailingZeros_0f7a4_76 (by decide) ?_
  refine lv_iushr hx hb dJ6_numberOfTrailingZeros_0f7a4_77 (zush_eq _ _) ?_
  refine lv_iadd hx hb dJ6_numberOfTrailingZeros_0f7a4_78 ?_
  exact z_iret X hH hS h dJ6_numberOfTrailingZeros_0f7a4_79
set_option maxRecDepth 100000 in
set_option maxHeartbeats 4000000 in
theorem wJ6_numberOfTrailingZeros_0f7a4_62 {z : Nat} {N : Nat} {r : Int32} {T : zS} (X : zX D cy p s m meth c cJ6_numberOfTrailingZeros_0f7a4 2 RJ6 (some .int))  {S : zS} {x0 : Int32} {x1 : Int32} (h : fJ6_numberOfTrailingZeros_0f7a4_62 N S x0 x1 = some (r, T)) : zWt D cy A p l e { frames := 0, cells := 0, slots := 0, locals := 0 } s m args below meth c z 0 0 0 0 (zQ D cy A T z (some (.int r))) S 2 62 [(0, .int x0), (1, .int x1)] [] := by
  obtain ⟨hx, hb, hml, hown, hr, hlocks, hT⟩ := id X
  intro H locs ls hH hS hl
  unfold fJ6_numberOfTrailingZeros_0f7a4_62 at h
  refine lv_iload_n hx hb dJ6_numberOfTrailingZeros_0f7a4_62 rfl (lv_at hl 0 rfl) ?_
  refine lv_iconst (v := (4 : Int32)) hx hb dJ6_numberOfTrailingZeros_0f7a4_63 (by decide) ?_
  refine lv_icmp_le (tgt := 74) hx hb dJ6_numberOfTrailingZeros_0f7a4_64 (by decide) (fun c => ?_) (fun c => ?_)
  · have h := (if_pos c).symm.trans h
    exact wJ6_numberOfTrailingZeros_0f7a4_74 X h _ _ _ hH hS (lv_sub hl [0, 1] rfl)
  · have h := (if_neg c).symm.trans h
    refine lv_iinc (v := (x1 + (2 : Int32))) (lv' := [(1, .int (x1 + (2 : Int32))), (0, .int x0)]) hx hb dJ6_numberOfTrailingZeros_0f7a4_67 hl (k := 1) rfl (z_ii (by decide) _) (by decide) rfl (fun ls hl => ?_)
    refine lv_iload_n hx hb dJ6_numberOfTrailingZeros_0f7a4_70 rfl (lv_at hl 1 rfl) ?_
    refine lv_iconst (v := (2 : Int32)) hx hb dJ6_numberOfTrailingZeros_0f7a4_71 (by decide) ?_
    refine lv_iushr hx hb dJ6_numberOfTrailingZeros_0f7a4_72 (zush_eq _ _) ?_
    refine lv_istore_n (lv' := [(0, .int (zush x0 (2 : Int32))), (1, .int (x1 + (2 : Int32)))]) hx hb dJ6_numberOfTrailingZeros_0f7a4_73 rfl hl (by decide) rfl (fun ls hl => ?_)
    exact wJ6_numberOfTrailingZeros_0f7a4_74 X h _ _ _ hH hS (lv_sub hl [0, 1] rfl)
set_option maxRecDepth 100000 in
set_option maxHeartbeats 4000000 in
theorem wJ6_numberOfTrailingZeros_0f7a4_49 {z : Nat} {N : Nat} {r : Int32} {T : zS} (X : zX D cy p s m meth c cJ6_numberOfTrailingZeros_0f7a4 2 RJ6 (some .int))  {S : zS} {x0 : Int32} {x1 : Int32} (h : fJ6_numberOfTrailingZeros_0f7a4_49 N S x0 x1 = some (r, T)) : zWt D cy A p l e { frames := 0, cells := 0, slots := 0, locals := 0 } s m args below meth c z 0 0 0 0 (zQ D cy A T z (some (.int r))) S 2 49 [(0, .int x0), (1, .int x1)] [] := by
  obtain ⟨hx, hb, hml, hown, hr, hlocks, hT⟩ := id X
  intro H locs ls hH hS hl
  unfold fJ6_numberOfTrailingZeros_0f7a4_49 at h
  refine lv_iload_n hx hb dJ6_numberOfTrailingZeros_0f7a4_49 rfl (lv_at hl 0 rfl) ?_
  refine lv_bipush (v := (16 : Int32)) hx hb dJ6_numberOfTrailingZeros_0f7a4_50 (by decide) ?_
  refine lv_icmp_le (tgt := 62) hx hb dJ6_numberOfTrailingZeros_0f7a4_52 (by decide) (fun c => ?_) (fun c => ?_)
  · have h := (if_pos c).symm.trans h
    exact wJ6_numberOfTrailingZeros_0f7a4_62 X h _ _ _ hH hS (lv_sub hl [0, 1] rfl)
  · have h := (if_neg c).symm.trans h
    refine lv_iinc (v := (x1 + (4 : Int32))) (lv' := [(1, .int (x1 + (4 : Int32))), (0, .int x0)]) hx hb dJ6_numberOfTrailingZeros_0f7a4_55 hl (k := 1) rfl (z_ii (by decide) _) (by decide) rfl (fun ls hl => ?_)
    refine lv_iload_n hx hb dJ6_numberOfTrailingZeros_0f7a4_58 rfl (lv_at hl 1 rfl) ?_
    refine lv_iconst (v := (4 : Int32)) hx hb dJ6_numberOfTrailingZeros_0f7a4_59 (by decide) ?_
    refine lv_iushr hx hb dJ6_numberOfTrailingZeros_0f7a4_60 (zush_eq _ _) ?_
    refine lv_istore_n (lv' := [(0, .int (zush x0 (4 : Int32))), (1, .int (x1 + (4 : Int32)))]) hx hb dJ6_numberOfTrailingZeros_0f7a4_61 rfl hl (by decide) rfl (fun ls hl => ?_)
    exact wJ6_numberOfTrailingZeros_0f7a4_62 X h _ _ _ hH hS (lv_sub hl [0, 1] rfl)
set_option maxRecDepth 100000 in
set_option maxHeartbeats 4000000 in
theorem wJ6_numberOfTrailingZeros_0f7a4_34 {z : Nat} {N : Nat} {r : Int32} {T : zS} (X : zX D cy p s m meth c cJ6_numberOfTrailingZeros_0f7a4 2 RJ6 (some .int))  {S : zS} {x0 : Int32} {x1 : Int32} (h : fJ6_numberOfTrailingZeros_0f7a4_34 N S x0 x1 = some (r, T)) : zWt D cy A p l e { frames := 0, cells := 0, slots := 0, locals := 0 } s m args below meth c z 0 0 0 0 (zQ D cy A T z (some (.int r))) S 2 34 [(0, .int x0), (1, .int x1)] [] := by
  obtain ⟨hx, hb, hml, hown, hr, hlocks, hT⟩ := id X
  intro H locs ls hH hS hl
  unfold fJ6_numberOfTrailingZeros_0f7a4_34 at h
  refine lv_iload_n hx hb dJ6_numberOfTrailingZeros_0f7a4_34 rfl (lv_at hl 0 rfl) ?_
  refine lv_sipush (v := (256 : Int32)) hx hb dJ6_numberOfTrailingZeros_0f7a4_35 (by decide) ?_
  refine lv_icmp_le (tgt := 49) hx hb dJ6_numberOfTrailingZeros_0f7a4_38 (by decide) (fun c => ?_) (fun c => ?_)
  · have h := (if_pos c).symm.trans h
    exact wJ6_numberOfTrailingZeros_0f7a4_49 X h _ _ _ hH hS (lv_sub hl [0, 1] rfl)
  · have h := (if_neg c).symm.trans h
    refine lv_iinc (v := (x1 + (8 : Int32))) (lv' := [(1, .int (x1 + (8 : Int32))), (0, .int x0)]) hx hb dJ6_numberOfTrailingZeros_0f7a4_41 hl (k := 1) rfl (z_ii (by decide) _) (by decide) rfl (fun ls hl => ?_)
    refine lv_iload_n hx hb dJ6_numberOfTrailingZeros_0f7a4_44 rfl (lv_at hl 1 rfl) ?_
    refine lv_bipush (v := (8 : Int32)) hx hb dJ6_numberOfTrailingZeros_0f7a4_45 (by decide) ?_
    refine lv_iushr hx hb dJ6_numberOfTrailingZeros_0f7a4_47 (zush_eq _ _) ?_
    refine lv_istore_n (lv' := [(0, .int (zush x0 (8 : Int32))), (1, .int (x1 + (8 : Int32)))]) hx hb dJ6_numberOfTrailingZeros_0f7a4_48 rfl hl (by decide) rfl (fun ls hl => ?_)
    exact wJ6_numberOfTrailingZeros_0f7a4_49 X h _ _ _ hH hS (lv_sub hl [0, 1] rfl)
set_option maxRecDepth 100000 in
set_option maxHeartbeats 4000000 in
theorem wJ6_numberOfTrailingZeros_0f7a4_0 {z : Nat} {N : Nat} {r : Int32} {T : zS} (X : zX D cy p s m meth c cJ6_numberOfTrailingZeros_0f7a4 2 RJ6 (some .int))  {S : zS} {x0 : Int32} (h : fJ6_numberOfTrailingZeros_0f7a4_0 N S x0 = some (r, T)) : zWt D cy A p l e { frames := 0, cells := 0, slots := 0, locals := 0 } s m args below meth c z 0 0 0 0 (zQ D cy A T z (some (.int r))) S 2 0 [(0, .int x0)] [] := by
  obtain ⟨hx, hb, hml, hown, hr, hlocks, hT⟩ := id X
  intro H locs ls hH hS hl
  unfold fJ6_numberOfTrailingZeros_0f7a4_0 at h
  refine lv_iload_n hx hb dJ6_numberOfTrailingZeros_0f7a4_0 rfl (lv_at hl 0 rfl) ?_
  refine lv_iconst (v := (-1 : Int32)) hx hb dJ6_numberOfTrailingZeros_0f7a4_1 (by decide) ?_
  refine lv_ixor hx hb dJ6_numberOfTrailingZeros_0f7a4_2 ?_
  refine lv_iload_n hx hb dJ6_numberOfTrailingZeros_0f7a4_3 rfl (lv_at hl 0 rfl) ?_
  refine lv_iconst (v := (1 : Int32)) hx hb dJ6_numberOfTrailingZeros_0f7a4_4 (by decide) ?_
  refine lv_isub hx hb dJ6_numberOfTrailingZeros_0f7a4_5 ?_
  refine lv_iand hx hb dJ6_numberOfTrailingZeros_0f7a4_6 ?_
  refine lv_topi (fun v1 ev1 => ?_)
  have h := zlet_at ev1 h
  refine lv_istore_n (lv' := [(0, .int v1)]) hx hb dJ6_numberOfTrailingZeros_0f7a4_7 rfl hl (by decide) rfl (fun ls hl => ?_)
  refine lv_iload_n hx hb dJ6_numberOfTrailingZeros_0f7a4_8 rfl (lv_at hl 0 rfl) ?_
  refine lv_if_gt (tgt := 17) hx hb dJ6_numberOfTrailingZeros_0f7a4_9 (by decide) (fun c => ?_) (fun c => ?_)
  · have h := (if_pos c).symm.trans h
    refine lv_iconst (v := (1 : Int32)) hx hb dJ6_numberOfTrailingZeros_0f7a4_17 (by decide) ?_
    refine lv_istore_n (lv' := [(1, .int (1 : Int32)), (0, .int v1)]) hx hb dJ6_numberOfTrailingZeros_0f7a4_18 rfl hl (by decide) rfl (fun ls hl => ?_)
    refine lv_iload_n hx hb dJ6_numberOfTrailingZeros_0f7a4_19 rfl (lv_at hl 1 rfl) ?_
    refine lv_ldcw (v := (65536 : Int32)) hx hb hown (X.ts _ ctJ6_264) dJ6_numberOfTrailingZeros_0f7a4_20 ?_
    refine lv_icmp_le (tgt := 34) hx hb dJ6_numberOfTrailingZeros_0f7a4_23 (by decide) (fun c => ?_) (fun c => ?_)
    · have h := (if_pos c).symm.trans h
      exact wJ6_numberOfTrailingZeros_0f7a4_34 X h _ _ _ hH hS (lv_sub hl [1, 0] rfl)
    · have h := (if_neg c).symm.trans h
      refine lv_iinc (v := ((1 : Int32) + (16 : Int32))) (lv' := [(1, .int ((1 : Int32) + (16 : Int32))), (0, .int v1)]) hx hb dJ6_numberOfTrailingZeros_0f7a4_26 hl (k := 0) rfl (z_ii (by decide) _) (by decide) rfl (fun ls hl => ?_)
      refine lv_iload_n hx hb dJ6_numberOfTrailingZeros_0f7a4_29 rfl (lv_at hl 1 rfl) ?_
      refine lv_bipush (v := (16 : Int32)) hx hb dJ6_numberOfTrailingZeros_0f7a4_30 (by decide) ?_
      refine lv_iushr hx hb dJ6_numberOfTrailingZeros_0f7a4_32 (zush_eq _ _) ?_
      refine lv_istore_n (lv' := [(0, .int (zush v1 (16 : Int32))), (1, .int ((1 : Int32) + (16 : Int32)))]) hx hb dJ6_numberOfTrailingZeros_0f7a4_33 rfl hl (by decide) rfl (fun ls hl => ?_)
      exact wJ6_numberOfTrailingZeros_0f7a4_34 X h _ _ _ hH hS (lv_sub hl [0, 1] rfl)
  · have h := (if_neg c).symm.trans h
    refine lv_iload_n hx hb dJ6_numberOfTrailingZeros_0f7a4_12 rfl (lv_at hl 0 rfl) ?_
    refine lv_bipush (v := (32 : Int32)) hx hb dJ6_numberOfTrailingZeros_0f7a4_13 (by decide) ?_
    refine lv_iand hx hb dJ6_numberOfTrailingZeros_0f7a4_15 ?_
    exact z_iret X hH hS h dJ6_numberOfTrailingZeros_0f7a4_16
set_option maxRecDepth 100000 in
theorem kJ6_numberOfTrailingZeros_0f7a4 {N : Nat} {r : Int32} {T : zS} {S : zS} {z : Nat} {x0 : Int32} (h : fJ6_numberOfTrailingZeros_0f7a4 N S x0 = some (r, T)) : Met l yJ6_numberOfTrailingZeros_0f7a4 [.code yJ6_numberOfTrailingZeros_0f7a4 cJ6_numberOfTrailingZeros_0f7a4 2 (some .int)] { frames := 0, cells := 0, slots := 0, locals := 0 } (zP D cy A S z [.int x0]) (zQ D cy A T z (some (.int r))) 0 0 A := by
  refine z_met (lv := [(0, .int x0)]) (by decide) (Nat.le_of_ble_eq_true rfl) rfl ?_
  intro p e s m below meth c X H locs ls hH hS hl
  exact wJ6_numberOfTrailingZeros_0f7a4_0 X h _ _ _ hH hS (lv_sub hl [0] rfl)
end
