section
variable {D : va_G} {cy : Nat → ClassId} {A : Nat → Prop} {p : Program} {l : Launch} {e : Env} {s : State} {m : MethodId} {args : Array Value} {below : List Frame} {meth : Method} {c : Code}
set_option maxRecDepth 100000 in
set_option maxHeartbeats 4000000 in
theorem wX8_areEnough_120 {z : Nat} {N : Nat} {r : Int32} {T : zS} (X : zX D cy p s m meth c cX8_areEnough 7 RX8 (some .boolean)) {K2 : zS × Nat × Int32 × Int32 × Int32 → Option (Int32 × zS)} (hK2 : ∀ (S : zS) (x0 : Nat) (x1 : Int32) (x2 : Int32) (x3 : Int32), K2 (S, x0, x1, x2, x3) = some (r, T) → zWt D cy A p l e { frames := 0, cells := 0, slots := 0, locals := 0 } s m args below meth c z 0 0 0 0 (zQ D cy A T z (some (.int r))) S 7 2 [(0, .ref x0), (1, .int x1), (2, .int x2), (3, .int x3)] []) {S : zS} {x0 : Nat} {x1 : Int32} {x2 : Int32} {x3 : Int32} (h : fX8_areEnough_120 N K2 S x0 x1 x2 x3 = some (r, T)) : zWt D cy A p l e { frames := 0, cells := 0, slots := 0, locals := 0 } s m args below meth c z 0 0 0 0 (zQ D cy A T z (some (.int r))) S 7 120 [(0, .ref x0), (1, .int x1), (2, .int x2), (3, .int x3)] [] := by
  obtain ⟨hx, hb, hml, hown, hr, hlocks, hT⟩ := id X
  intro H locs ls hH hS hl
  unfold fX8_areEnough_120 at h
  refine lv_iinc (v := (x3 + (1 : Int32))) (lv' := [(3, .int (x3 + (1 : Int32))), (0, .ref x0), (1, .int x1), (2, .int x2)]) hx hb dX8_areEnough_120 hl (k := 3) rfl rfl (by decide) rfl (fun ls hl => ?_)
  refine lv_goto (tgt := 2) hx hb dX8_areEnough_123 (by decide) ?_
  exact hK2 _ _ _ _ _ h _ _ _ hH hS (lv_sub hl [1, 2, 3, 0] rfl)
set_option maxRecDepth 100000 in
set_option maxHeartbeats 4000000 in
theorem wX8_areEnough_99 {z : Nat} {N : Nat} {r : Int32} {T : zS} (X : zX D cy p s m meth c cX8_areEnough 7 RX8 (some .boolean)) {K2 : zS × Nat × Int32 × Int32 × Int32 → Option (Int32 × zS)} (hK2 : ∀ (S : zS) (x0 : Nat) (x1 : Int32) (x2 : Int32) (x3 : Int32), K2 (S, x0, x1, x2, x3) = some (r, T) → zWt D cy A p l e { frames := 0, cells := 0, slots := 0, locals := 0 } s m args below meth c z 0 0 0 0 (zQ D cy A T z (some (.int r))) S 7 2 [(0, .ref x0), (1, .int x1), (2, .int x2), (3, .int x3)] []) {K25 : zS × Nat × Int32 × Int32 × Int32 × Int32 × Int32 → Option (Int32 × zS)} (hK25 : ∀ (S : zS) (x0 : Nat) (x1 : Int32) (x2 : Int32) (x3 : Int32) (x4 : Int32) (x5 : Int32), K25 (S, x0, x1, x2, x3, x4, x5) = some (r, T) → zWt D cy A p l e { frames := 0, cells := 0, slots := 0, locals := 0 } s m args below meth c z 0 0 0 0 (zQ D cy A T z (some (.int r))) S 7 25 [(0, .ref x0), (1, .int x1), (2, .int x2), (3, .int x3), (4, .int x4), (5, .int x5)] []) {K35 : zS × Nat × Int32 × Int32 × Int32 × Int32 × Int32 × Int32 → Option (Int32 × zS)} (hK35 : ∀ (S : zS) (x0 : Nat) (x1 : Int32) (x2 : Int32) (x3 : Int32) (x4 : Int32) (x5 : Int32) (x6 : Int32), K35 (S, x0, x1, x2, x3, x4, x5, x6) = some (r, T) → zWt D cy A p l e { frames := 0, cells := 0, slots := 0, locals := 0 } s m args below meth c z 0 0 0 0 (zQ D cy A T z (some (.int r))) S 7 35 [(0, .ref x0), (1, .int x1), (2, .int x2), (3, .int x3), (4, .int x4), (5, .int x5), (6, .int x6)] []) {S : zS} {x0 : Nat} {x1 : Int32} {x2 : Int32} {x3 : Int32} {x5 : Int32} {x6 : Int32} {y0 : Int32} (h : fX8_areEnough_99 N K2 K25 K35 S x0 x1 x2 x3 x5 x6 y0 = some (r, T)) : zWt D cy A p l e { frames := 0, cells := 0, slots := 0, locals := 0 } s m args below meth c z 0 0 0 0 (zQ D cy A T z (some (.int r))) S 7 99 [(0, .ref x0), (1, .int x1), (2, .int x2), (3, .int x3), (5, .int x5), (6, .int x6)] [.int y0] := by
  obtain ⟨hx, hb, hml, hown, hr, hlocks, hT⟩ := id X
  intro H locs ls hH hS hl
  unfold fX8_areEnough_99 at h
  refine lv_istore (lv' := [(4, .int y0), (0, .ref x0), (1, .int x1), (2, .int x2), (3, .int x3), (5, .int x5), (6, .int x6)]) hx hb dX8_areEnough_99 hl (by decide) rfl (fun ls hl => ?_)
  refine lv_iinc (v := (x6 + (1 : Int32))) (lv' := [(6, .int (x6 + (1 : Int32))), (4, .int y0), (0, .ref x0), (1, .int x1), (2, .int x2), (3, .int x3), (5, .int x5)]) hx hb dX8_areEnough_101 hl (k := 6) rfl rfl (by decide) rfl (fun ls hl => ?_)
  refine lv_goto (tgt := 35) hx hb dX8_areEnough_104 (by decide) ?_
  exact hK35 _ _ _ _ _ _ _ _ h _ _ _ hH hS (lv_sub hl [2, 3, 4, 5, 1, 6, 0] rfl)
set_option maxRecDepth 100000 in
set_option maxHeartbeats 4000000 in
theorem wX8_areEnough_98 {z : Nat} {N : Nat} {r : Int32} {T : zS} (X : zX D cy p s m meth c cX8_areEnough 7 RX8 (some .boolean)) {K2 : zS × Nat × Int32 × Int32 × Int32 → Option (Int32 × zS)} (hK2 : ∀ (S : zS) (x0 : Nat) (x1 : Int32) (x2 : Int32) (x3 : Int32), K2 (S, x0, x1, x2, x3) = some (r, T) → zWt D cy A p l e { frames := 0, cells := 0, slots := 0, locals := 0 } s m args below meth c z 0 0 0 0 (zQ D cy A T z (some (.int r))) S 7 2 [(0, .ref x0), (1, .int x1), (2, .int x2), (3, .int x3)] []) {K25 : zS × Nat × Int32 × Int32 × Int32 × Int32 × Int32 → Option (Int32 × zS)} (hK25 : ∀ (S : zS) (x0 : Nat) (x1 : Int32) (x2 : Int32) (x3 : Int32) (x4 : Int32) (x5 : Int32), K25 (S, x0, x1, x2, x3, x4, x5) = some (r, T) → zWt D cy A p l e { frames := 0, cells := 0, slots := 0, locals := 0 } s m args below meth c z 0 0 0 0 (zQ D cy A T z (some (.int r))) S 7 25 [(0, .ref x0), (1, .int x1), (2, .int x2), (3, .int x3), (4, .int x4), (5, .int x5)] []) {K35 : zS × Nat × Int32 × Int32 × Int32 × Int32 × Int32 × Int32 → Option (Int32 × zS)} (hK35 : ∀ (S : zS) (x0 : Nat) (x1 : Int32) (x2 : Int32) (x3 : Int32) (x4 : Int32) (x5 : Int32) (x6 : Int32), K35 (S, x0, x1, x2, x3, x4, x5, x6) = some (r, T) → zWt D cy A p l e { frames := 0, cells := 0, slots := 0, locals := 0 } s m args below meth c z 0 0 0 0 (zQ D cy A T z (some (.int r))) S 7 35 [(0, .ref x0), (1, .int x1), (2, .int x2), (3, .int x3), (4, .int x4), (5, .int x5), (6, .int x6)] []) {S : zS} {x0 : Nat} {x1 : Int32} {x2 : Int32} {x3 : Int32} {x5 : Int32} {x6 : Int32} (h : fX8_areEnough_98 N K2 K25 K35 S x0 x1 x2 x3 x5 x6 = some (r, T)) : zWt D cy A p l e { frames := 0, cells := 0, slots := 0, locals := 0 } s m args below meth c z 0 0 0 0 (zQ D cy A T z (some (.int r))) S 7 98 [(0, .ref x0), (1, .int x1), (2, .int x2), (3, .int x3), (5, .int x5), (6, .int x6)] [] := by
  obtain ⟨hx, hb, hml, hown, hr, hlocks, hT⟩ := id X
  intro H locs ls hH hS hl
  unfold fX8_areEnough_98 at h
  refine lv_iconst (v := (0 : Int32)) hx hb dX8_areEnough_98 (by decide) ?_
  exact wX8_areEnough_99 X hK2 hK25 hK35 h _ _ _ hH hS (lv_sub hl [0, 1, 2, 3, 4, 5] rfl)
set_option maxRecDepth 100000 in
set_option maxHeartbeats 4000000 in
theorem wX8_areEnough_94 {z : Nat} {N : Nat} {r : Int32} {T : zS} (X : zX D cy p s m meth c cX8_areEnough 7 RX8 (some .boolean)) {K2 : zS × Nat × Int32 × Int32 × Int32 → Option (Int32 × zS)} (hK2 : ∀ (S : zS) (x0 : Nat) (x1 : Int32) (x2 : Int32) (x3 : Int32), K2 (S, x0, x1, x2, x3) = some (r, T) → zWt D cy A p l e { frames := 0, cells := 0, slots := 0, locals := 0 } s m args below meth c z 0 0 0 0 (zQ D cy A T z (some (.int r))) S 7 2 [(0, .ref x0), (1, .int x1), (2, .int x2), (3, .int x3)] []) {K25 : zS × Nat × Int32 × Int32 × Int32 × Int32 × Int32 → Option (Int32 × zS)} (hK25 : ∀ (S : zS) (x0 : Nat) (x1 : Int32) (x2 : Int32) (x3 : Int32) (x4 : Int32) (x5 : Int32), K25 (S, x0, x1, x2, x3, x4, x5) = some (r, T) → zWt D cy A p l e { frames := 0, cells := 0, slots := 0, locals := 0 } s m args below meth c z 0 0 0 0 (zQ D cy A T z (some (.int r))) S 7 25 [(0, .ref x0), (1, .int x1), (2, .int x2), (3, .int x3), (4, .int x4), (5, .int x5)] []) {K35 : zS × Nat × Int32 × Int32 × Int32 × Int32 × Int32 × Int32 → Option (Int32 × zS)} (hK35 : ∀ (S : zS) (x0 : Nat) (x1 : Int32) (x2 : Int32) (x3 : Int32) (x4 : Int32) (x5 : Int32) (x6 : Int32), K35 (S, x0, x1, x2, x3, x4, x5, x6) = some (r, T) → zWt D cy A p l e { frames := 0, cells := 0, slots := 0, locals := 0 } s m args below meth c z 0 0 0 0 (zQ D cy A T z (some (.int r))) S 7 35 [(0, .ref x0), (1, .int x1), (2, .int x2), (3, .int x3), (4, .int x4), (5, .int x5), (6, .int x6)] []) {S : zS} {x0 : Nat} {x1 : Int32} {x2 : Int32} {x3 : Int32} {x5 : Int32} {x6 : Int32} (h : fX8_areEnough_94 N K2 K25 K35 S x0 x1 x2 x3 x5 x6 = some (r, T)) : zWt D cy A p l e { frames := 0, cells := 0, slots := 0, locals := 0 } s m args below meth c z 0 0 0 0 (zQ D cy A T z (some (.int r))) S 7 94 [(0, .ref x0), (1, .int x1), (2, .int x2), (3, .int x3), (5, .int x5), (6, .int x6)] [] := by
  obtain ⟨hx, hb, hml, hown, hr, hlocks, hT⟩ := id X
  intro H locs ls hH hS hl
  unfold fX8_areEnough_94 at h
  refine lv_iconst (v := (1 : Int32)) hx hb dX8_areEnough_94 (by decide) ?_
  refine lv_goto (tgt := 99) hx hb dX8_areEnough_95 (by decide) ?_
  exact wX8_areEnough_99 X hK2 hK25 hK35 h _ _ _ hH hS (lv_sub hl [0, 1, 2, 3, 4, 5] rfl)
set_option maxRecDepth 100000 in
set_option maxHeartbeats 4000000 in
theorem wX8_areEnough_35 {z : Nat} {N : Nat} {r : Int32} {T : zS} (X : zX D cy p s m meth c cX8_areEnough 7 RX8 (some .boolean)) {K2 : zS × Nat × Int32 × Int32 × Int32 → Option (Int32 × zS)} (hK2 : ∀ (S : zS) (x0 : Nat) (x1 : Int32) (x2 : Int32) (x3 : Int32), K2 (S, x0, x1, x2, x3) = some (r, T) → zWt D cy A p l e { frames := 0, cells := 0, slots := 0, locals := 0 } s m args below meth c z 0 0 0 0 (zQ D cy A T z (some (.int r))) S 7 2 [(0, .ref x0), (1, .int x1), (2, .int x2), (3, .int x3)] []) {K25 : zS × Nat × Int32 × Int32 × Int32 × Int32 × Int32 → Option (Int32 × zS)} (hK25 : ∀ (S : zS) (x0 : Nat) (x1 : Int32) (x2 : Int32) (x3 : Int32) (x4 : Int32) (x5 : Int32), K25 (S, x0, x1, x2, x3, x4, x5) = some (r, T) → zWt D cy A p l e { frames := 0, cells := 0, slots := 0, locals := 0 } s m args below meth c z 0 0 0 0 (zQ D cy A T z (some (.int r))) S 7 25 [(0, .ref x0), (1, .int x1), (2, .int x2), (3, .int x3), (4, .int x4), (5, .int x5)] []) {K35 : zS × Nat × Int32 × Int32 × Int32 × Int32 × Int32 × Int32 → Option (Int32 × zS)} (hK35 : ∀ (S : zS) (x0 : Nat) (x1 : Int32) (x2 : Int32) (x3 : Int32) (x4 : Int32) (x5 : Int32) (x6 : Int32), K35 (S, x0, x1, x2, x3, x4, x5, x6) = some (r, T) → zWt D cy A p l e { frames := 0, cells := 0, slots := 0, locals := 0 } s m args below meth c z 0 0 0 0 (zQ D cy A T z (some (.int r))) S 7 35 [(0, .ref x0), (1, .int x1), (2, .int x2), (3, .int x3), (4, .int x4), (5, .int x5), (6, .int x6)] []) {S : zS} {x0 : Nat} {x1 : Int32} {x2 : Int32} {x3 : Int32} {x4 : Int32} {x5 : Int32} {x6 : Int32} (h : fX8_areEnough_35 N K2 K25 K35 S x0 x1 x2 x3 x4 x5 x6 = some (r, T)) : zWt D cy A p l e { frames := 0, cells := 0, slots := 0, locals := 0 } s m args below meth c z 0 0 0 0 (zQ D cy A T z (some (.int r))) S 7 35 [(0, .ref x0), (1, .int x1), (2, .int x2), (3, .int x3), (4, .int x4), (5, .int x5), (6, .int x6)] [] := by
  obtain ⟨hx, hb, hml, hown, hr, hlocks, hT⟩ := id X
  intro H locs ls hH hS hl
  unfold fX8_areEnough_35 at h
  refine lv_iload hx hb dX8_areEnough_35 (lv_at hl 6 rfl) ?_
  refine lv_iload hx hb dX8_areEnough_37 (lv_at hl 5 rfl) ?_
  refine lv_icmp_ge (tgt := 107) hx hb dX8_areEnough_39 (by decide) (fun c => ?_) (fun c => ?_)
  · have h := (if_pos c).symm.trans h
    refine lv_iinc (v := (x5 + (1 : Int32))) (lv' := [(5, .int (x5 + (1 : Int32))), (0, .ref x0), (1, .int x1), (2, .int x2), (3, .int x3), (4, .int x4), (6, .int x6)]) hx hb dX8_areEnough_107 hl (k := 5) rfl rfl (by decide) rfl (fun ls hl => ?_)
    refine lv_goto (tgt := 25) hx hb dX8_areEnough_110 (by decide) ?_
    exact hK25 _ _ _ _ _ _ _ h _ _ _ hH hS (lv_sub hl [1, 2, 3, 4, 5, 0] rfl)
  · have h := (if_neg c).symm.trans h
    refine lv_iload hx hb dX8_areEnough_42 (lv_at hl 4 rfl) ?_
    refine lv_if_ne (tgt := 94) hx hb dX8_areEnough_44 (by decide) (fun c => ?_) (fun c => ?_)
    · have h := (if_neg c).symm.trans h
      exact wX8_areEnough_94 X hK2 hK25 hK35 h _ _ _ hH hS (lv_sub hl [0, 1, 2, 3, 5, 6] rfl)
    · have h := (if_pos c).symm.trans h
      refine lv_iload_n hx hb dX8_areEnough_47 rfl (lv_at hl 1 rfl) ?_
      refine lv_iload hx hb dX8_areEnough_48 (lv_at hl 5 rfl) ?_
      refine lv_ishr hx hb dX8_areEnough_50 ?_
      refine lv_iconst (v := (1 : Int32)) hx hb dX8_areEnough_51 (by decide) ?_
      refine lv_iand hx hb dX8_areEnough_52 ?_
      refine lv_iconst (v := (1 : Int32)) hx hb dX8_areEnough_53 (by decide) ?_
      refine lv_icmp_ne (tgt := 98) hx hb dX8_areEnough_54 (by decide) (fun c => ?_) (fun c => ?_)
      · have h := (if_neg c).symm.trans h
        exact wX8_areEnough_98 X hK2 hK25 hK35 h _ _ _ hH hS (lv_sub hl [0, 1, 2, 3, 5, 6] rfl)
      · have h := (if_pos c).symm.trans h
        refine lv_iload_n hx hb dX8_areEnough_57 rfl (lv_at hl 1 rfl) ?_
        refine lv_iload hx hb dX8_areEnough_58 (lv_at hl 6 rfl) ?_
        refine lv_ishr hx hb dX8_areEnough_60 ?_
        refine lv_iconst (v := (1 : Int32)) hx hb dX8_areEnough_61 (by decide) ?_
        refine lv_iand hx hb dX8_areEnough_62 ?_
        refine lv_iconst (v := (1 : Int32)) hx hb dX8_areEnough_63 (by decide) ?_
        refine lv_icmp_ne (tgt := 98) hx hb dX8_areEnough_64 (by decide) (fun c => ?_) (fun c => ?_)
        · have h := (if_neg c).symm.trans h
          exact wX8_areEnough_98 X hK2 hK25 hK35 h _ _ _ hH hS (lv_sub hl [0, 1, 2, 3, 5, 6] rfl)
        · have h := (if_pos c).symm.trans h
          refine lv_aload_n hx hb dX8_areEnough_67 rfl (lv_at hl 0 rfl) ?_
          obtain ⟨v1, ev1, h⟩ := zb_some h
          refine z_getr X flX8_23 hH ev1 dX8_areEnough_68 ?_
          refine lv_bipush (v := (8 : Int32)) hx hb dX8_areEnough_71 (by decide) ?_
          refine lv_iload hx hb dX8_areEnough_73 (lv_at hl 5 rfl) ?_
          refine lv_imul hx hb dX8_areEnough_75 ?_
          refine lv_iload_n hx hb dX8_areEnough_76 rfl (lv_at hl 3 rfl) ?_
          refine lv_iadd hx hb dX8_areEnough_77 ?_
          obtain ⟨v2, ev2, h⟩ := zb_some h
          refine z_iald X hH ev2 dX8_areEnough_78 ?_
          refine lv_aload_n hx hb dX8_areEnough_79 rfl (lv_at hl 0 rfl) ?_
          obtain ⟨v3, ev3, h⟩ := zb_some h
          refine z_getr X flX8_23 hH ev3 dX8_areEnough_80 ?_
          refine lv_bipush (v := (8 : Int32)) hx hb dX8_areEnough_83 (by decide) ?_
          refine lv_iload hx hb dX8_areEnough_85 (lv_at hl 6 rfl) ?_
          refine lv_imul hx hb dX8_areEnough_87 ?_
          refine lv_iload_n hx hb dX8_areEnough_88 rfl (lv_at hl 3 rfl) ?_
          refine lv_iadd hx hb dX8_areEnough_89 ?_
          obtain ⟨v4, ev4, h⟩ := zb_some h
          refine z_iald X hH ev4 dX8_areEnough_90 ?_
          refine lv_icmp_eq (tgt := 98) hx hb dX8_areEnough_91 (by decide) (fun c => ?_) (fun c => ?_)
          · have h := (if_pos c).symm.trans h
            exact wX8_areEnough_98 X hK2 hK25 hK35 h _ _ _ hH hS (lv_sub hl [0, 1, 2, 3, 5, 6] rfl)
          · have h := (if_neg c).symm.trans h
            exact wX8_areEnough_94 X hK2 hK25 hK35 h _ _ _ hH hS (lv_sub hl [0, 1, 2, 3, 5, 6] rfl)
set_option maxRecDepth 100000 in
set_option maxHeartbeats 4000000 in
theorem uX8_areEnough_35 {z : Nat} {N : Nat} {r : Int32} {T : zS} (X : zX D cy p s m meth c cX8_areEnough 7 RX8 (some .boolean)) {K2 : zS × Nat × Int32 × Int32 × Int32 → Option (Int32 × zS)} (hK2 : ∀ (S : zS) (x0 : Nat) (x1 : Int32) (x2 : Int32) (x3 : Int32), K2 (S, x0, x1, x2, x3) = some (r, T) → zWt D cy A p l e { frames := 0, cells := 0, slots := 0, locals := 0 } s m args below meth c z 0 0 0 0 (zQ D cy A T z (some (.int r))) S 7 2 [(0, .ref x0), (1, .int x1), (2, .int x2), (3, .int x3)] []) {K25 : zS × Nat × Int32 × Int32 × Int32 × Int32 × Int32 → Option (Int32 × zS)} (hK25 : ∀ (S : zS) (x0 : Nat) (x1 : Int32) (x2 : Int32) (x3 : Int32) (x4 : Int32) (x5 : Int32), K25 (S, x0, x1, x2, x3, x4, x5) = some (r, T) → zWt D cy A p l e { frames := 0, cells := 0, slots := 0, locals := 0 } s m args below meth c z 0 0 0 0 (zQ D cy A T z (some (.int r))) S 7 25 [(0, .ref x0), (1, .int x1), (2, .int x2), (3, .int x3), (4, .int x4), (5, .int x5)] []) {S : zS} {x0 : Nat} {x1 : Int32} {x2 : Int32} {x3 : Int32} {x4 : Int32} {x5 : Int32} {x6 : Int32} (h : lX8_areEnough_35 N K2 K25 S x0 x1 x2 x3 x4 x5 x6 = some (r, T)) : zWt D cy A p l e { frames := 0, cells := 0, slots := 0, locals := 0 } s m args below meth c z 0 0 0 0 (zQ D cy A T z (some (.int r))) S 7 35 [(0, .ref x0), (1, .int x1), (2, .int x2), (3, .int x3), (4, .int x4), (5, .int x5), (6, .int x6)] [] := by
  unfold lX8_areEnough_35 at h
  exact zloop_ind (P := fun y => zWt D cy A p l e { frames := 0, cells := 0, slots := 0, locals := 0 } s m args below meth c z 0 0 0 0 (zQ D cy A T z (some (.int r))) y.1 7 35 [(0, .ref y.2.1), (1, .int y.2.2.1), (2, .int y.2.2.2.1), (3, .int y.2.2.2.2.1), (4, .int y.2.2.2.2.2.1), (5, .int y.2.2.2.2.2.2.1), (6, .int y.2.2.2.2.2.2.2)] []) (fun K hK y hy => wX8_areEnough_35 X hK2 hK25 (fun S x0 x1 x2 x3 x4 x5 x6 hq => hK (S, x0, x1, x2, x3, x4, x5, x6) hq) hy) N (S, x0, x1, x2, x3, x4, x5, x6) h
set_option maxRecDepth 100000 in
set_option maxHeartbeats 4000000 in
theorem wX8_areEnough_25 {z : Nat} {N : Nat} {r : Int32} {T : zS} (X : zX D cy p s m meth c cX8_areEnough 7 RX8 (some .boolean)) {K2 : zS × Nat × Int32 × Int32 × Int32 → Option (Int32 × zS)} (hK2 : ∀ (S : zS) (x0 : Nat) (x1 : Int32) (x2 : Int32) (x3 : Int32), K2 (S, x0, x1, x2, x3) = some (r, T) → zWt D cy A p l e { frames := 0, cells := 0, slots := 0, locals := 0 } s m args below meth c z 0 0 0 0 (zQ D cy A T z (some (.int r))) S 7 2 [(0, .ref x0), (1, .int x1), (2, .int x2), (3, .int x3)] []) {K25 : zS × Nat × Int32 × Int32 × Int32 × Int32 × Int32 → Option (Int32 × zS)} (hK25 : ∀ (S : zS) (x0 : Nat) (x1 : Int32) (x2 : Int32) (x3 : Int32) (x4 : Int32) (x5 : Int32), K25 (S, x0, x1, x2, x3, x4, x5) = some (r, T) → zWt D cy A p l e { frames := 0, cells := 0, slots := 0, locals := 0 } s m args below meth c z 0 0 0 0 (zQ D cy A T z (some (.int r))) S 7 25 [(0, .ref x0), (1, .int x1), (2, .int x2), (3, .int x3), (4, .int x4), (5, .int x5)] []) {S : zS} {x0 : Nat} {x1 : Int32} {x2 : Int32} {x3 : Int32} {x4 : Int32} {x5 : Int32} (h : fX8_areEnough_25 N K2 K25 S x0 x1 x2 x3 x4 x5 = some (r, T)) : zWt D cy A p l e { frames := 0, cells := 0, slots := 0, locals := 0 } s m args below meth c z 0 0 0 0 (zQ D cy A T z (some (.int r))) S 7 25 [(0, .ref x0), (1, .int x1), (2, .int x2), (3, .int x3), (4, .int x4), (5, .int x5)] [] := by
  obtain ⟨hx, hb, hml, hown, hr, hlocks, hT⟩ := id X
  intro H locs ls hH hS hl
  unfold fX8_areEnough_25 at h
  refine lv_iload hx hb dX8_areEnough_25 (lv_at hl 5 rfl) ?_
  refine lv_bipush (v := (8 : Int32)) hx hb dX8_areEnough_27 (by decide) ?_
  refine lv_icmp_ge (tgt := 113) hx hb dX8_areEnough_29 (by decide) (fun c => ?_) (fun c => ?_)
  · have h := (if_pos c).symm.trans h
    refine lv_iload hx hb dX8_areEnough_113 (lv_at hl 4 rfl) ?_
    refine lv_if_ne (tgt := 120) hx hb dX8_areEnough_115 (by decide) (fun c => ?_) (fun c => ?_)
    · have h := (if_neg c).symm.trans h
      exact wX8_areEnough_120 X hK2 h _ _ _ hH hS (lv_sub hl [0, 1, 2, 3] rfl)
    · have h := (if_pos c).symm.trans h
      refine lv_iconst (v := (0 : Int32)) hx hb dX8_areEnough_118 (by decide) ?_
      exact z_zret X hH hS h dX8_areEnough_119
  · have h := (if_neg c).symm.trans h
    refine lv_iconst (v := (0 : Int32)) hx hb dX8_areEnough_32 (by decide) ?_
    refine lv_istore (lv' := [(6, .int (0 : Int32)), (0, .ref x0), (1, .int x1), (2, .int x2), (3, .int x3), (4, .int x4), (5, .int x5)]) hx hb dX8_areEnough_33 hl (by decide) rfl (fun ls hl => ?_)
    exact uX8_areEnough_35 X hK2 hK25 h _ _ _ hH hS (lv_sub hl [1, 2, 3, 4, 5, 6, 0] rfl)
set_option maxRecDepth 100000 in
set_option maxHeartbeats 4000000 in
theorem uX8_areEnough_25 {z : Nat} {N : Nat} {r : Int32} {T : zS} (X : zX D cy p s m meth c cX8_areEnough 7 RX8 (some .boolean)) {K2 : zS × Nat × Int32 × Int32 × Int32 → Option (Int32 × zS)} (hK2 : ∀ (S : zS) (x0 : Nat) (x1 : Int32) (x2 : Int32) (x3 : Int32), K2 (S, x0, x1, x2, x3) = some (r, T) → zWt D cy A p l e { frames := 0, cells := 0, slots := 0, locals := 0 } s m args below meth c z 0 0 0 0 (zQ D cy A T z (some (.int r))) S 7 2 [(0, .ref x0), (1, .int x1), (2, .int x2), (3, .int x3)] []) {S : zS} {x0 : Nat} {x1 : Int32} {x2 : Int32} {x3 : Int32} {x4 : Int32} {x5 : Int32} (h : lX8_areEnough_25 N K2 S x0 x1 x2 x3 x4 x5 = some (r, T)) : zWt D cy A p l e { frames := 0, cells := 0, slots := 0, locals := 0 } s m args below meth c z 0 0 0 0 (zQ D cy A T z (some (.int r))) S 7 25 [(0, .ref x0), (1, .int x1), (2, .int x2), (3, .int x3), (4, .int x4), (5, .int x5)] [] := by
  unfold lX8_areEnough_25 at h
  exact zloop_ind (P := fun y => zWt D cy A p l e { frames := 0, cells := 0, slots := 0, locals := 0 } s m args below meth c z 0 0 0 0 (zQ D cy A T z (some (.int r))) y.1 7 25 [(0, .ref y.2.1), (1, .int y.2.2.1), (2, .int y.2.2.2.1), (3, .int y.2.2.2.2.1), (4, .int y.2.2.2.2.2.1), (5, .int y.2.2.2.2.2.2)] []) (fun K hK y hy => wX8_areEnough_25 X hK2 (fun S x0 x1 x2 x3 x4 x5 hq => hK (S, x0, x1, x2, x3, x4, x5) hq) hy) N (S, x0, x1, x2, x3, x4, x5) h
set_option maxRecDepth 100000 in
set_option maxHeartbeats 4000000 in
theorem wX8_areEnough_2 {z : Nat} {N : Nat} {r : Int32} {T : zS} (X : zX D cy p s m meth c cX8_areEnough 7 RX8 (some .boolean)) {K2 : zS × Nat × Int32 × Int32 × Int32 → Option (Int32 × zS)} (hK2 : ∀ (S : zS) (x0 : Nat) (x1 : Int32) (x2 : Int32) (x3 : Int32), K2 (S, x0, x1, x2, x3) = some (r, T) → zWt D cy A p l e { frames := 0, cells := 0, slots := 0, locals := 0 } s m args below meth c z 0 0 0 0 (zQ D cy A T z (some (.int r))) S 7 2 [(0, .ref x0), (1, .int x1), (2, .int x2), (3, .int x3)] []) {S : zS} {x0 : Nat} {x1 : Int32} {x2 : Int32} {x3 : Int32} (h : fX8_areEnough_2 N K2 S x0 x1 x2 x3 = some (r, T)) : zWt D cy A p l e { frames := 0, cells := 0, slots := 0, locals := 0 } s m args below meth c z 0 0 0 0 (zQ D cy A T z (some (.int r))) S 7 2 [(0, .ref x0), (1, .int x1), (2, .int x2), (3, .int x3)] [] := by
  obtain ⟨hx, hb, hml, hown, hr, hlocks, hT⟩ := id X
  intro H locs ls hH hS hl
  unfold fX8_areEnough_2 at h
  refine lv_iload_n hx hb dX8_areEnough_2 rfl (lv_at hl 3 rfl) ?_
  refine lv_bipush (v := (8 : Int32)) hx hb dX8_areEnough_3 (by decide) ?_
  refine lv_icmp_ge (tgt := 126) hx hb dX8_areEnough_5 (by decide) (fun c => ?_) (fun c => ?_)
  · have h := (if_pos c).symm.trans h
    refine lv_iconst (v := (1 : Int32)) hx hb dX8_areEnough_126 (by decide) ?_
    exact z_zret X hH hS h dX8_areEnough_127
  · have h := (if_neg c).symm.trans h
    refine lv_iload_n hx hb dX8_areEnough_8 rfl (lv_at hl 2 rfl) ?_
    refine lv_iload_n hx hb dX8_areEnough_9 rfl (lv_at hl 3 rfl) ?_
    refine lv_ishr hx hb dX8_areEnough_10 ?_
    refine lv_iconst (v := (1 : Int32)) hx hb dX8_areEnough_11 (by decide) ?_
    refine lv_iand hx hb dX8_areEnough_12 ?_
    refine lv_if_ne (tgt := 19) hx hb dX8_areEnough_13 (by decide) (fun c => ?_) (fun c => ?_)
    · have h := (if_neg c).symm.trans h
      refine lv_iconst (v := (0 : Int32)) hx hb dX8_areEnough_19 (by decide) ?_
      refine lv_istore (lv' := [(4, .int (0 : Int32)), (0, .ref x0), (1, .int x1), (2, .int x2), (3, .int x3)]) hx hb dX8_areEnough_20 hl (by decide) rfl (fun ls hl => ?_)
      refine lv_iconst (v := (0 : Int32)) hx hb dX8_areEnough_22 (by decide) ?_
      refine lv_istore (lv' := [(5, .int (0 : Int32)), (4, .int (0 : Int32)), (0, .ref x0), (1, .int x1), (2, .int x2), (3, .int x3)]) hx hb dX8_areEnough_23 hl (by decide) rfl (fun ls hl => ?_)
      exact uX8_areEnough_25 X hK2 h _ _ _ hH hS (lv_sub hl [2, 3, 4, 5, 1, 0] rfl)
    · have h := (if_pos c).symm.trans h
      refine lv_goto (tgt := 120) hx hb dX8_areEnough_16 (by decide) ?_
      exact wX8_areEnough_120 X hK2 h _ _ _ hH hS (lv_sub hl [0, 1, 2, 3] rfl)
set_option maxRecDepth 100000 in
set_option maxHeartbeats 4000000 in
theorem uX8_areEnough_2 {z : Nat} {N : Nat} {r : Int32} {T : zS} (X : zX D cy p s m meth c cX8_areEnough 7 RX8 (some .boolean))  {S : zS} {x0 : Nat} {x1 : Int32} {x2 : Int32} {x3 : Int32} (h : lX8_areEnough_2 N S x0 x1 x2 x3 = some (r, T)) : zWt D cy A p l e { frames := 0, cells := 0, slots := 0, locals := 0 } s m args below meth c z 0 0 0 0 (zQ D cy A T z (some (.int r))) S 7 2 [(0, .ref x0), (1, .int x1), (2, .int x2), (3, .int x3)] [] := by
  unfold lX8_areEnough_2 at h
  exact zloop_ind (P := fun y => zWt D cy A p l e { frames := 0, cells := 0, slots := 0, locals := 0 } s m args below meth c z 0 0 0 0 (zQ D cy A T z (some (.int r))) y.1 7 2 [(0, .ref y.2.1), (1, .int y.2.2.1), (2, .int y.2.2.2.1), (3, .int y.2.2.2.2)] []) (fun K hK y hy => wX8_areEnough_2 X (fun S x0 x1 x2 x3 hq => hK (S, x0, x1, x2, x3) hq) hy) N (S, x0, x1, x2, x3) h
set_option maxRecDepth 100000 in
set_option maxHeartbeats 4000000 in
theorem wX8_areEnough_0 {z : Nat} {N : Nat} {r : Int32} {T : zS} (X : zX D cy p s m meth c cX8_areEnough 7 RX8 (some .boolean))  {S : zS} {x0 : Nat} {x1 : Int32} {x2 : Int32} (h : fX8_areEnough_0 N S x0 x1 x2 = some (r, T)) : zWt D cy A p l e { frames := 0, cells := 0, slots := 0, locals := 0 } s m args below meth c z 0 0 0 0 (zQ D cy A T z (some (.int r))) S 7 0 [(0, .ref x0), (1, .int x1), (2, .int x2)] [] := by
  obtain ⟨hx, hb, hml, hown, hr, hlocks, hT⟩ := id X
  intro H locs ls hH hS hl
  unfold fX8_areEnough_0 at h
  refine lv_iconst (v := (0 : Int32)) hx hb dX8_areEnough_0 (by decide) ?_
  refine lv_istore_n (lv' := [(3, .int (0 : Int32)), (0, .ref x0), (1, .int x1), (2, .int x2)]) hx hb dX8_areEnough_1 rfl hl (by decide) rfl (fun ls hl => ?_)
  exact uX8_areEnough_2 X h _ _ _ hH hS (lv_sub hl [1, 2, 3, 0] rfl)
set_option maxRecDepth 100000 in
theorem kX8_areEnough {N : Nat} {r : Int32} {T : zS} {S : zS} {z : Nat} {x0 : Nat} {x1 : Int32} {x2 : Int32} (h : fX8_areEnough N S x0 x1 x2 = some (r, T)) : Met l yX8_areEnough [.code yX8_areEnough cX8_areEnough 7 (some .boolean)] { frames := 0, cells := 0, slots := 0, locals := 0 } (zP D cy A S z [.ref x0, .int x1, .int x2]) (zQ D cy A T z (some (.int r))) 0 0 A := by
  refine z_met (lv := [(0, .ref x0), (1, .int x1), (2, .int x2)]) (by decide) (Nat.le_of_ble_eq_true rfl) rfl ?_
  intro p e s m below meth c X H locs ls hH hS hl
  exact wX8_areEnough_0 X h _ _ _ hH hS (lv_sub hl [0, 1, 2] rfl)
set_option maxRecDepth 100000 in
set_option maxHeartbeats 4000000 in
theorem wX8_rooms_105 {z : Nat} {N : Nat} {r : Int32} {T : zS} (X : zX D cy p s m meth c cX8_rooms 6 RX8 (some .int))  {S : zS} {y0 : Int32} (h : fX8_rooms_105 N S y0 = some (r, T)) : zWt D cy A p l e { frames := 6, cells := 0, slots := 0, locals := 145 } s m args below meth c z 0 0 0 0 (zQ D cy A T z (some (.int r))) S 6 105 [] [.int y0] := by
  obtain ⟨hx, hb, hml, hown, hr, hlocks, hT⟩ := id X
  intro H locs ls hH hS hl
  unfold fX8_rooms_105 at h
  exact z_iret X hH hS h dX8_rooms_105
set_option maxRecDepth 100000 in
set_option maxHeartbeats 4000000 in
theorem wX8_rooms_87 {z : Nat} {N : Nat} {r : Int32} {T : zS} (X : zX D cy p s m meth c cX8_rooms 6 RX8 (some .int)) {K35 : zS × Nat × Int32 × Int32 × Int32 × Int32 → Option (Int32 × zS)} (hK35 : ∀ (S : zS) (x0 : Nat) (x2 : Int32) (x3 : Int32) (x4 : Int32) (x5 : Int32), K35 (S, x0, x2, x3, x4, x5) = some (r, T) → zWt D cy A p l e { frames := 6, cells := 0, slots := 0, locals := 145 } s m args below meth c z 0 0 0 0 (zQ D cy A T z (some (.int r))) S 6 35 [(0, .ref x0), (2, .int x2), (3, .int x3), (4, .int x4), (5, .int x5)] []) {S : zS} {x0 : Nat} {x2 : Int32} {x3 : Int32} {x4 : Int32} {x5 : Int32} (h : fX8_rooms_87 N K35 S x0 x2 x3 x4 x5 = some (r, T)) : zWt D cy A p l e { frames := 6, cells := 0, slots := 0, locals := 145 } s m args below meth c z 0 0 0 0 (zQ D cy A T z (some (.int r))) S 6 87 [(0, .ref x0), (2, .int x2), (3, .int x3), (4, .int x4), (5, .int x5)] [] := by
  obtain ⟨hx, hb, hml, hown, hr, hlocks, hT⟩ := id X
  intro H locs ls hH hS hl
  unfold fX8_rooms_87 at h
  refine lv_iinc (v := (x5 + (1 : Int32))) (lv' := [(5, .int (x5 + (1 : Int32))), (0, .ref x0), (2, .int x2), (3, .int x3), (4, .int x4)]) hx hb dX8_rooms_87 hl (k := 4) rfl rfl (by decide) rfl (fun ls hl => ?_)
  refine lv_goto (tgt := 35) hx hb dX8_rooms_90 (by decide) ?_
  exact hK35 _ _ _ _ _ _ h _ _ _ hH hS (lv_sub hl [1, 2, 3, 4, 0] rfl)
set_option maxRecDepth 100000 in
set_option maxHeartbeats 4000000 in
theorem wX8_rooms_73 {z : Nat} {N : Nat} {r : Int32} {T : zS} (X : zX D cy p s m meth c cX8_rooms 6 RX8 (some .int)) {K35 : zS × Nat × Int32 × Int32 × Int32 × Int32 → Option (Int32 × zS)} (hK35 : ∀ (S : zS) (x0 : Nat) (x2 : Int32) (x3 : Int32) (x4 : Int32) (x5 : Int32), K35 (S, x0, x2, x3, x4, x5) = some (r, T) → zWt D cy A p l e { frames := 6, cells := 0, slots := 0, locals := 145 } s m args below meth c z 0 0 0 0 (zQ D cy A T z (some (.int r))) S 6 35 [(0, .ref x0), (2, .int x2), (3, .int x3), (4, .int x4), (5, .int x5)] []) {S : zS} {x0 : Nat} {x2 : Int32} {x3 : Int32} {x4 : Int32} {x5 : Int32} (h : fX8_rooms_73 N K35 S x0 x2 x3 x4 x5 = some (r, T)) : zWt D cy A p l e { frames := 6, cells := 0, slots := 0, locals := 145 } s m args below meth c z 0 0 0 0 (zQ D cy A T z (some (.int r))) S 6 73 [(0, .ref x0), (2, .int x2), (3, .int x3), (4, .int x4), (5, .int x5)] [] := by
  obtain ⟨hx, hb, hml, hown, hr, hlocks, hT⟩ := id X
  intro H locs ls hH hS hl
  unfold fX8_rooms_73 at h
  refine lv_aload_n hx hb dX8_rooms_73 rfl (lv_at hl 0 rfl) ?_
  refine lv_iload hx hb dX8_rooms_74 (lv_at hl 4 rfl) ?_
  refine lv_iload_n hx hb dX8_rooms_76 rfl (lv_at hl 2 rfl) ?_
  obtain ⟨u1, eu1, h⟩ := zb_some h
  obtain ⟨v3, S2, eS2, h⟩ := zb2_some h
  refine z_cV (As := [.int x5, .int x3]) X hl hH hS mlX8_215 eu1 (kX8_areEnough eS2) rfl rfl (Nat.le_of_ble_eq_true rfl) ⟨rfl, rfl, Nat.le_of_ble_eq_true rfl, Nat.le_of_ble_eq_true rfl⟩ ⟨Nat.le_refl _, Nat.le_refl _⟩ dX8_rooms_77 (fun H locs hH hS => ?_)
  refine lv_if_eq (tgt := 87) hx hb dX8_rooms_80 (by decide) (fun c => ?_) (fun c => ?_)
  · have h := (if_pos c).symm.trans h
    exact wX8_rooms_87 X hK35 h _ _ _ hH hS (lv_sub hl [0, 1, 2, 3, 4] rfl)
  · have h := (if_neg c).symm.trans h
    refine lv_iload hx hb dX8_rooms_83 (lv_at hl 4 rfl) ?_
    refine lv_istore (lv' := [(4, .int x5), (0, .ref x0), (2, .int x2), (3, .int x3), (5, .int x5)]) hx hb dX8_rooms_85 hl (by decide) rfl (fun ls hl => ?_)
    exact wX8_rooms_87 X hK35 h _ _ _ hH hS (lv_sub hl [1, 2, 3, 0, 4] rfl)
set_option maxRecDepth 100000 in
set_option maxHeartbeats 4000000 in
theorem wX8_rooms_35 {z : Nat} {N : Nat} {r : Int32} {T : zS} (X : zX D cy p s m meth c cX8_rooms 6 RX8 (some .int)) {K35 : zS × Nat × Int32 × Int32 × Int32 × Int32 → Option (Int32 × zS)} (hK35 : ∀ (S : zS) (x0 : Nat) (x2 : Int32) (x3 : Int32) (x4 : Int32) (x5 : Int32), K35 (S, x0, x2, x3, x4, x5) = some (r, T) → zWt D cy A p l e { frames := 6, cells := 0, slots := 0, locals := 145 } s m args below meth c z 0 0 0 0 (zQ D cy A T z (some (.int r))) S 6 35 [(0, .ref x0), (2, .int x2), (3, .int x3), (4, .int x4), (5, .int x5)] []) {S : zS} {x0 : Nat} {x2 : Int32} {x3 : Int32} {x4 : Int32} {x5 : Int32} (h : fX8_rooms_35 N K35 S x0 x2 x3 x4 x5 = some (r, T)) : zWt D cy A p l e { frames := 6, cells := 0, slots := 0, locals := 145 } s m args below meth c z 0 0 0 0 (zQ D cy A T z (some (.int r))) S 6 35 [(0, .ref x0), (2, .int x2), (3, .int x3), (4, .int x4), (5, .int x5)] [] := by
  obtain ⟨hx, hb, hml, hown, hr, hlocks, hT⟩ := id X
  intro H locs ls hH hS hl
  unfold fX8_rooms_35 at h
  refine lv_iload hx hb dX8_rooms_35 (lv_at hl 4 rfl) ?_
  refine lv_sipush (v := (256 : Int32)) hx hb dX8_rooms_37 (by decide) ?_
  refine lv_icmp_ge (tgt := 93) hx hb dX8_rooms_40 (by decide) (fun c => ?_) (fun c => ?_)
  · have h := (if_pos c).symm.trans h
    refine lv_iload hx hb dX8_rooms_93 (lv_at hl 3 rfl) ?_
    refine lv_if_ge (tgt := 103) hx hb dX8_rooms_95 (by decide) (fun c => ?_) (fun c => ?_)
    · have h := (if_pos c).symm.trans h
      refine lv_iload hx hb dX8_rooms_103 (lv_at hl 3 rfl) ?_
      exact wX8_rooms_105 X h _ _ _ hH hS (lv_sub hl [] rfl)
    · have h := (if_neg c).symm.trans h
      refine lv_bipush (v := (-2 : Int32)) hx hb dX8_rooms_98 (by decide) ?_
      refine lv_goto (tgt := 105) hx hb dX8_rooms_100 (by decide) ?_
      exact wX8_rooms_105 X h _ _ _ hH hS (lv_sub hl [] rfl)
  · have h := (if_neg c).symm.trans h
    refine lv_iload hx hb dX8_rooms_43 (lv_at hl 4 rfl) ?_
    refine lv_iload_n hx hb dX8_rooms_45 rfl (lv_at hl 1 rfl) ?_
    refine lv_iconst (v := (-1 : Int32)) hx hb dX8_rooms_46 (by decide) ?_
    refine lv_ixor hx hb dX8_rooms_47 ?_
    refine lv_iand hx hb dX8_rooms_48 ?_
    refine lv_if_ne (tgt := 87) hx hb dX8_rooms_49 (by decide) (fun c => ?_) (fun c => ?_)
    · have h := (if_neg c).symm.trans h
      exact wX8_rooms_87 X hK35 h _ _ _ hH hS (lv_sub hl [0, 1, 2, 3, 4] rfl)
    · have h := (if_pos c).symm.trans h
      refine lv_iload hx hb dX8_rooms_52 (lv_at hl 3 rfl) ?_
      refine lv_if_lt (tgt := 73) hx hb dX8_rooms_54 (by decide) (fun c => ?_) (fun c => ?_)
      · have h := (if_pos c).symm.trans h
        exact wX8_rooms_73 X hK35 h _ _ _ hH hS (lv_sub hl [0, 1, 2, 3, 4] rfl)
      · have h := (if_neg c).symm.trans h
        refine lv_iload hx hb dX8_rooms_57 (lv_at hl 4 rfl) ?_
        obtain ⟨v5, S4, eS4, h⟩ := zb2_some h
        refine z_cS (As := [.int x5]) X hl hH hS mlX8_184 (kX8_bits eS4) rfl rfl (Nat.le_of_ble_eq_true rfl) ⟨rfl, rfl, Nat.le_of_ble_eq_true rfl, Nat.le_of_ble_eq_true rfl⟩ ⟨Nat.le_refl _, Nat.le_refl _⟩ dX8_rooms_59 (fun H locs hH hS => ?_)
        refine lv_iload hx hb dX8_rooms_62 (lv_at hl 3 rfl) ?_
        obtain ⟨v7, S6, eS6, h⟩ := zb2_some h
        refine z_cS (As := [.int x4]) X hl hH hS mlX8_184 (kX8_bits eS6) rfl rfl (Nat.le_of_ble_eq_true rfl) ⟨rfl, rfl, Nat.le_of_ble_eq_true rfl, Nat.le_of_ble_eq_true rfl⟩ ⟨Nat.le_refl _, Nat.le_refl _⟩ dX8_rooms_64 (fun H locs hH hS => ?_)
        refine lv_icmp_lt (tgt := 73) hx hb dX8_rooms_67 (by decide) (fun c => ?_) (fun c => ?_)
        · have h := (if_pos c).symm.trans h
          exact wX8_rooms_73 X hK35 h _ _ _ hH hS (lv_sub hl [0, 1, 2, 3, 4] rfl)
        · have h := (if_neg c).symm.trans h
          refine lv_goto (tgt := 87) hx hb dX8_rooms_70 (by decide) ?_
          exact wX8_rooms_87 X hK35 h _ _ _ hH hS (lv_sub hl [0, 1, 2, 3, 4] rfl)
set_option maxRecDepth 100000 in
set_option maxHeartbeats 4000000 in
theorem uX8_rooms_35 {z : Nat} {N : Nat} {r : Int32} {T : zS} (X : zX D cy p s m meth c cX8_rooms 6 RX8 (some .int))  {S : zS} {x0 : Nat} {x2 : Int32} {x3 : Int32} {x4 : Int32} {x5 : Int32} (h : lX8_rooms_35 N S x0 x2 x3 x4 x5 = some (r, T)) : zWt D cy A p l e { frames := 6, cells := 0, slots := 0, locals := 145 } s m args below meth c z 0 0 0 0 (zQ D cy A T z (some (.int r))) S 6 35 [(0, .ref x0), (2, .int x2), (3, .int x3), (4, .int x4), (5, .int x5)] [] := by
  unfold lX8_rooms_35 at h
  exact zloop_ind (P := fun y => zWt D cy A p l e { frames := 6, cells := 0, slots := 0, locals := 145 } s m args below meth c z 0 0 0 0 (zQ D cy A T z (some (.int r))) y.1 6 35 [(0, .ref y.2.1), (2, .int y.2.2.1), (3, .int y.2.2.2.1), (4, .int y.2.2.2.2.1), (5, .int y.2.2.2.2.2)] []) (fun K hK y hy => wX8_rooms_35 X (fun S x0 x2 x3 x4 x5 hq => hK (S, x0, x2, x3, x4, x5) hq) hy) N (S, x0, x2, x3, x4, x5) h
set_option maxRecDepth 100000 in
set_option maxHeartbeats 4000000 in
theorem wX8_rooms_19 {z : Nat} {N : Nat} {r : Int32} {T : zS} (X : zX D cy p s m meth c cX8_rooms 6 RX8 (some .int))  {S : zS} (h : fX8_rooms_19 N S = some (r, T)) : zWt D cy A p l e { frames := 6, cells := 0, slots := 0, locals := 145 } s m args below meth c z 0 0 0 0 (zQ D cy A T z (some (.int r))) S 6 19 [] [] := by
  obtain ⟨hx, hb, hml, hown, hr, hlocks, hT⟩ := id X
  intro H locs ls hH hS hl
  unfold fX8_rooms_19 at h
  refine lv_iconst (v := (-1 : Int32)) hx hb dX8_rooms_19 (by decide) ?_
  exact z_iret X hH hS h dX8_rooms_20
set_option maxRecDepth 100000 in
set_option maxHeartbeats 4000000 in
theorem wX8_rooms_0 {z : Nat} {N : Nat} {r : Int32} {T : zS} (X : zX D cy p s m meth c cX8_rooms 6 RX8 (some .int))  {S : zS} {x0 : Nat} {x1 : Int32} {x2 : Int32} (h : fX8_rooms_0 N S x0 x1 x2 = some (r, T)) : zWt D cy A p l e { frames := 6, cells := 0, slots := 0, locals := 145 } s m args below meth c z 0 0 0 0 (zQ D cy A T z (some (.int r))) S 6 0 [(0, .ref x0), (1, .int x1), (2, .int x2)] [] := by
  obtain ⟨hx, hb, hml, hown, hr, hlocks, hT⟩ := id X
  intro H locs ls hH hS hl
  unfold fX8_rooms_0 at h
  refine lv_aload_n hx hb dX8_rooms_0 rfl (lv_at hl 0 rfl) ?_
  refine lv_iload_n hx hb dX8_rooms_1 rfl (lv_at hl 1 rfl) ?_
  obtain ⟨u8, eu8, h⟩ := zb_some h
  obtain ⟨v10, S9, eS9, h⟩ := zb2_some h
  refine z_cV (As := [.int x1]) X hl hH hS mlX8_126 eu8 (kX8_isStep eS9) rfl rfl (Nat.le_of_ble_eq_true rfl) ⟨rfl, rfl, Nat.le_of_ble_eq_true rfl, Nat.le_of_ble_eq_true rfl⟩ ⟨Nat.le_refl _, Nat.le_refl _⟩ dX8_rooms_2 (fun H locs hH hS => ?_)
  refine lv_if_eq (tgt := 19) hx hb dX8_rooms_5 (by decide) (fun c => ?_) (fun c => ?_)
  · have h := (if_pos c).symm.trans h
    exact wX8_rooms_19 X h _ _ _ hH hS (lv_sub hl [] rfl)
  · have h := (if_neg c).symm.trans h
    refine lv_iload_n hx hb dX8_rooms_8 rfl (lv_at hl 2 rfl) ?_
    refine lv_iconst (v := (1 : Int32)) hx hb dX8_rooms_9 (by decide) ?_
    refine lv_sipush (v := (255 : Int32)) hx hb dX8_rooms_10 (by decide) ?_
    obtain ⟨v12, S11, eS11, h⟩ := zb2_some h
    refine z_cS (As := [.int x2, .int (1 : Int32), .int (255 : Int32)]) X hl hH hS mlX8_99 (kX8_in eS11) rfl rfl (Nat.le_of_ble_eq_true rfl) ⟨rfl, rfl, Nat.le_of_ble_eq_true rfl, Nat.le_of_ble_eq_true rfl⟩ ⟨Nat.le_refl _, Nat.le_refl _⟩ dX8_rooms_13 (fun H locs hH hS => ?_)
    refine lv_if_ne (tgt := 21) hx hb dX8_rooms_16 (by decide) (fun c => ?_) (fun c => ?_)
    · have h := (if_neg c).symm.trans h
      refine lv_aload_n hx hb dX8_rooms_21 rfl (lv_at hl 0 rfl) ?_
      refine lv_iconst (v := (0 : Int32)) hx hb dX8_rooms_22 (by decide) ?_
      refine lv_iload_n hx hb dX8_rooms_23 rfl (lv_at hl 1 rfl) ?_
      refine lv_iconst (v := (1 : Int32)) hx hb dX8_rooms_24 (by decide) ?_
      obtain ⟨u13, eu13, h⟩ := zb_some h
      obtain ⟨v15, S14, eS14, h⟩ := zb2_some h
      refine z_cV (As := [.int (0 : Int32), .int x1, .int (1 : Int32)]) X hl hH hS mlX8_178 eu13 (kX8_wordsOf eS14) rfl rfl (Nat.le_of_ble_eq_true rfl) ⟨rfl, rfl, Nat.le_of_ble_eq_true rfl, Nat.le_of_ble_eq_true rfl⟩ ⟨Nat.le_refl _, Nat.le_refl _⟩ dX8_rooms_25 (fun H locs hH hS => ?_)
      refine lv_istore_n (lv' := [(3, .int v15), (0, .ref x0), (1, .int x1), (2, .int x2)]) hx hb dX8_rooms_28 rfl hl (by decide) rfl (fun ls hl => ?_)
      refine lv_iconst (v := (-1 : Int32)) hx hb dX8_rooms_29 (by decide) ?_
      refine lv_istore (lv' := [(4, .int (-1 : Int32)), (3, .int v15), (0, .ref x0), (1, .int x1), (2, .int x2)]) hx hb dX8_rooms_30 hl (by decide) rfl (fun ls hl => ?_)
      refine lv_iconst (v := (1 : Int32)) hx hb dX8_rooms_32 (by decide) ?_
      refine lv_istore (lv' := [(5, .int (1 : Int32)), (4, .int (-1 : Int32)), (3, .int v15), (0, .ref x0), (1, .int x1), (2, .int x2)]) hx hb dX8_rooms_33 hl (by decide) rfl (fun ls hl => ?_)
      exact uX8_rooms_35 X h _ _ _ hH hS (lv_sub hl [3, 5, 2, 1, 0] rfl)
    · have h := (if_pos c).symm.trans h
      exact wX8_rooms_19 X h _ _ _ hH hS (lv_sub hl [] rfl)
set_option maxRecDepth 100000 in
theorem kX8_rooms {N : Nat} {r : Int32} {T : zS} {S : zS} {z : Nat} {x0 : Nat} {x1 : Int32} {x2 : Int32} (h : fX8_rooms N S x0 x1 x2 = some (r, T)) : Met l yX8_rooms [.code yX8_rooms cX8_rooms 6 (some .int)] { frames := 6, cells := 0, slots := 0, locals := 145 } (zP D cy A S z [.ref x0, .int x1, .int x2]) (zQ D cy A T z (some (.int r))) 0 0 A := by
  refine z_met (lv := [(0, .ref x0), (1, .int x1), (2, .int x2)]) (by decide) (Nat.le_of_ble_eq_true rfl) rfl ?_
  intro p e s m below meth c X H locs ls hH hS hl
  exact wX8_rooms_0 X h _ _ _ hH hS (lv_sub hl [0, 1, 2] rfl)
set_option maxRecDepth 100000 in
set_option maxHeartbeats 4000000 in
theorem wX8_isMaker_0 {z : Nat} {N : Nat} {r : Int32} {T : zS} (X : zX D cy p s m meth c cX8_isMaker 1 RX8 (some .boolean))  {S : zS} {x0 : Int32} (h : fX8_isMaker_0 N S x0 = some (r, T)) : zWt D cy A p l e { frames := 1, cells := 0, slots := 0, locals := 22 } s m args below meth c z 0 0 0 0 (zQ D cy A T z (some (.int r))) S 1 0 [(0, .int x0)] [] := by
  obtain ⟨hx, hb, hml, hown, hr, hlocks, hT⟩ := id X
  intro H locs ls hH hS hl
  unfold fX8_isMaker_0 at h
  refine lv_iload_n hx hb dX8_isMaker_0 rfl (lv_at hl 0 rfl) ?_
  refine lv_iconst (v := (0 : Int32)) hx hb dX8_isMaker_1 (by decide) ?_
  refine lv_bipush (v := (29 : Int32)) hx hb dX8_isMaker_2 (by decide) ?_
  obtain ⟨v2, S1, eS1, h⟩ := zb2_some h
  refine z_cS (As := [.int x0, .int (0 : Int32), .int (29 : Int32)]) X hl hH hS mlX8_99 (kX8_in eS1) rfl rfl (Nat.le_of_ble_eq_true rfl) ⟨rfl, rfl, Nat.le_of_ble_eq_true rfl, Nat.le_of_ble_eq_true rfl⟩ ⟨Nat.le_refl _, Nat.le_refl _⟩ dX8_isMaker_4 (fun H locs hH hS => ?_)
  exact z_zret X hH hS h dX8_isMaker_7
set_option maxRecDepth 100000 in
theorem kX8_isMaker {N : Nat} {r : Int32} {T : zS} {S : zS} {z : Nat} {x0 : Int32} (h : fX8_isMaker N S x0 = some (r, T)) : Met l yX8_isMaker [.code yX8_isMaker cX8_isMaker 1 (some .boolean)] { frames := 1, cells := 0, slots := 0, locals := 22 } (zP D cy A S z [.int x0]) (zQ D cy A T z (some (.int r))) 0 0 A := by
  refine z_met (lv := [(0, .int x0)]) (by decide) (Nat.le_of_ble_eq_true rfl) rfl ?_
  intro p e s m below meth c X H locs ls hH hS hl
  exact wX8_isMaker_0 X h _ _ _ hH hS (lv_sub hl [0] rfl)
set_option maxRecDepth 100000 in
set_option maxHeartbeats 4000000 in
theorem wX8_maker_50 {z : Nat} {N : Nat} {r : Int32} {T : zS} (X : zX D cy p s m meth c cX8_maker 4 RX8 (some .int))  {S : zS} {y0 : Nat} {y1 : Int32} {y2 : Int32} (h : fX8_maker_50 N S y0 y1 y2 = some (r, T)) : zWt D cy A p l e { frames := 2, cells := 0, slots := 0, locals := 43 } s m args below meth c z 0 0 0 0 (zQ D cy A T z (some (.int r))) S 4 50 [] [.int y2, .int y1, .ref y0] := by
  obtain ⟨hx, hb, hml, hown, hr, hlocks, hT⟩ := id X
  intro H locs ls hH hS hl
  unfold fX8_maker_50 at h
  obtain ⟨S1, eS1, h⟩ := zb_some h
  refine z_iast X hH hS eS1 dX8_maker_50 (fun H locs hH hS => ?_)
  refine lv_iconst (v := (1 : Int32)) hx hb dX8_maker_51 (by decide) ?_
  exact z_iret X hH hS h dX8_maker_52
set_option maxRecDepth 100000 in
set_option maxHeartbeats 4000000 in
theorem wX8_maker_29 {z : Nat} {N : Nat} {r : Int32} {T : zS} (X : zX D cy p s m meth c cX8_maker 4 RX8 (some .int))  {S : zS} {x0 : Nat} {x1 : Int32} {x2 : Int32} {x3 : Int32} (h : fX8_maker_29 N S x0 x1 x2 x3 = some (r, T)) : zWt D cy A p l e { frames := 2, cells := 0, slots := 0, locals := 43 } s m args below meth c z 0 0 0 0 (zQ D cy A T z (some (.int r))) S 4 29 [(0, .ref x0), (1, .int x1), (2, .int x2), (3, .int x3)] [] := by
  obtain ⟨hx, hb, hml, hown, hr, hlocks, hT⟩ := id X
  intro H locs ls hH hS hl
  unfold fX8_maker_29 at h
  refine lv_aload_n hx hb dX8_maker_29 rfl (lv_at hl 0 rfl) ?_
  obtain ⟨v2, ev2, h⟩ := zb_some h
  refine z_getr X flX8_80 hH ev2 dX8_maker_30 ?_
  refine lv_iload_n hx hb dX8_maker_33 rfl (lv_at hl 1 rfl) ?_
  refine lv_iload_n hx hb dX8_maker_34 rfl (lv_at hl 2 rfl) ?_
  obtain ⟨S3, eS3, h⟩ := zb_some h
  refine z_iast X hH hS eS3 dX8_maker_35 (fun H locs hH hS => ?_)
  refine lv_aload_n hx hb dX8_maker_36 rfl (lv_at hl 0 rfl) ?_
  obtain ⟨v4, ev4, h⟩ := zb_some h
  refine z_getr X flX8_83 hH ev4 dX8_maker_37 ?_
  refine lv_iload_n hx hb dX8_maker_40 rfl (lv_at hl 1 rfl) ?_
  refine lv_iload_n hx hb dX8_maker_41 rfl (lv_at hl 2 rfl) ?_
  refine lv_if_ge (tgt := 49) hx hb dX8_maker_42 (by decide) (fun c => ?_) (fun c => ?_)
  · have h := (if_pos c).symm.trans h
    refine lv_iload_n hx hb dX8_maker_49 rfl (lv_at hl 3 rfl) ?_
    exact wX8_maker_50 X h _ _ _ hH hS (lv_sub hl [] rfl)
  · have h := (if_neg c).symm.trans h
    refine lv_iconst (v := (0 : Int32)) hx hb dX8_maker_45 (by decide) ?_
    refine lv_goto (tgt := 50) hx hb dX8_maker_46 (by decide) ?_
    exact wX8_maker_50 X h _ _ _ hH hS (lv_sub hl [] rfl)
set_option maxRecDepth 100000 in
set_option maxHeartbeats 4000000 in
theorem wX8_maker_27 {z : Nat} {N : Nat} {r : Int32} {T : zS} (X : zX D cy p s m meth c cX8_maker 4 RX8 (some .int))  {S : zS} (h : fX8_maker_27 N S = some (r, T)) : zWt D cy A p l e { frames := 2, cells := 0, slots := 0, locals := 43 } s m args below meth c z 0 0 0 0 (zQ D cy A T z (some (.int r))) S 4 27 [] [] := by
  obtain ⟨hx, hb, hml, hown, hr, hlocks, hT⟩ := id X
  intro H locs ls hH hS hl
  unfold fX8_maker_27 at h
  refine lv_iconst (v := (-1 : Int32)) hx hb dX8_maker_27 (by decide) ?_
  exact z_iret X hH hS h dX8_maker_28
set_option maxRecDepth 100000 in
set_option maxHeartbeats 4000000 in
theorem wX8_maker_0 {z : Nat} {N : Nat} {r : Int32} {T : zS} (X : zX D cy p s m meth c cX8_maker 4 RX8 (some .int))  {S : zS} {x0 : Nat} {x1 : Int32} {x2 : Int32} {x3 : Int32} (h : fX8_maker_0 N S x0 x1 x2 x3 = some (r, T)) : zWt D cy A p l e { frames := 2, cells := 0, slots := 0, locals := 43 } s m args below meth c z 0 0 0 0 (zQ D cy A T z (some (.int r))) S 4 0 [(0, .ref x0), (1, .int x1), (2, .int x2), (3, .int x3)] [] := by
  obtain ⟨hx, hb, hml, hown, hr, hlocks, hT⟩ := id X
  intro H locs ls hH hS hl
  unfold fX8_maker_0 at h
  refine lv_iload_n hx hb dX8_maker_0 rfl (lv_at hl 1 rfl) ?_
  obtain ⟨v6, S5, eS5, h⟩ := zb2_some h
  refine z_cS (As := [.int x1]) X hl hH hS mlX8_218 (kX8_isMaker eS5) rfl rfl (Nat.le_of_ble_eq_true rfl) ⟨rfl, rfl, Nat.le_of_ble_eq_true rfl, Nat.le_of_ble_eq_true rfl⟩ ⟨Nat.le_refl _, Nat.le_refl _⟩ dX8_maker_1 (fun H locs hH hS => ?_)
  refine lv_if_eq (tgt := 27) hx hb dX8_maker_4 (by decide) (fun c => ?_) (fun c => ?_)
  · have h := (if_pos c).symm.trans h
    exact wX8_maker_27 X h _ _ _ hH hS (lv_sub hl [] rfl)
  · have h := (if_neg c).symm.trans h
    refine lv_iload_n hx hb dX8_maker_7 rfl (lv_at hl 2 rfl) ?_
    refine lv_iconst (v := (-1 : Int32)) hx hb dX8_maker_8 (by decide) ?_
    refine lv_icmp_eq (tgt := 29) hx hb dX8_maker_9 (by decide) (fun c => ?_) (fun c => ?_)
    · have h := (if_pos c).symm.trans h
      exact wX8_maker_29 X h _ _ _ hH hS (lv_sub hl [0, 1, 2, 3] rfl)
    · have h := (if_neg c).symm.trans h
      refine lv_iload_n hx hb dX8_maker_12 rfl (lv_at hl 2 rfl) ?_
      obtain ⟨v8, S7, eS7, h⟩ := zb2_some h
      refine z_cS (As := [.int x2]) X hl hH hS mlX8_218 (kX8_isMaker eS7) rfl rfl (Nat.le_of_ble_eq_true rfl) ⟨rfl, rfl, Nat.le_of_ble_eq_true rfl, Nat.le_of_ble_eq_true rfl⟩ ⟨Nat.le_refl _, Nat.le_refl _⟩ dX8_maker_13 (fun H locs hH hS => ?_)
      refine lv_if_eq (tgt := 27) hx hb dX8_maker_16 (by decide) (fun c => ?_) (fun c => ?_)
      · have h := (if_pos c).symm.trans h
        exact wX8_maker_27 X h _ _ _ hH hS (lv_sub hl [] rfl)
      · have h := (if_neg c).symm.trans h
        refine lv_aload_n hx hb dX8_maker_19 rfl (lv_at hl 0 rfl) ?_
        refine lv_iload_n hx hb dX8_maker_20 rfl (lv_at hl 3 rfl) ?_
        obtain ⟨u9, eu9, h⟩ := zb_some h
        obtain ⟨v11, S10, eS10, h⟩ := zb2_some h
        refine z_cV (As := [.int x3]) X hl hH hS mlX8_116 eu9 (kX8_isText eS10) rfl rfl (Nat.le_of_ble_eq_true rfl) ⟨rfl, rfl, Nat.le_of_ble_eq_true rfl, Nat.le_of_ble_eq_true rfl⟩ ⟨Nat.le_refl _, Nat.le_refl _⟩ dX8_maker_21 (fun H locs hH hS => ?_)
        refine lv_if_ne (tgt := 29) hx hb dX8_maker_24 (by decide) (fun c => ?_) (fun c => ?_)
        · have h := (if_neg c).symm.trans h
          exact wX8_maker_29 X h _ _ _ hH hS (lv_sub hl [0, 1, 2, 3] rfl)
        · have h := (if_pos c).symm.trans h
          exact wX8_maker_27 X h _ _ _ hH hS (lv_sub hl [] rfl)
set_option maxRecDepth 100000 in
theorem kX8_maker {N : Nat} {r : Int32} {T : zS} {S : zS} {z : Nat} {x0 : Nat} {x1 : Int32} {x2 : Int32} {x3 : Int32} (h : fX8_maker N S x0 x1 x2 x3 = some (r, T)) : Met l yX8_maker [.code yX8_maker cX8_maker 4 (some .int)] { frames := 2, cells := 0, slots := 0, locals := 43 } (zP D cy A S z [.ref x0, .int x1, .int x2, .int x3]) (zQ D cy A T z (some (.int r))) 0 0 A := by
  refine z_met (lv := [(0, .ref x0), (1, .int x1), (2, .int x2), (3, .int x3)]) (by decide) (Nat.le_of_ble_eq_true rfl) rfl ?_
  intro p e s m below meth c X H locs ls hH hS hl
  exact wX8_maker_0 X h _ _ _ hH hS (lv_sub hl [0, 1, 2, 3] rfl)
set_option maxRecDepth 100000 in
set_option maxHeartbeats 4000000 in
theorem wX8_downFrom_4 {z : Nat} {N : Nat} {r : Int32} {T : zS} (X : zX D cy p s m meth c cX8_downFrom 4 RX8 (some .int)) {K4 : zS × Nat × Int32 × Int32 → Option (Int32 × zS)} (hK4 : ∀ (S : zS) (x0 : Nat) (x2 : Int32) (x3 : Int32), K4 (S, x0, x2, x3) = some (r, T) → zWt D cy A p l e { frames := 0, cells := 0, slots := 0, locals := 0 } s m args below meth c z 0 0 0 0 (zQ D cy A T z (some (.int r))) S 4 4 [(0, .ref x0), (2, .int x2), (3, .int x3)] []) {S : zS} {x0 : Nat} {x2 : Int32} {x3 : Int32} (h : fX8_downFrom_4 N K4 S x0 x2 x3 = some (r, T)) : zWt D cy A p l e { frames := 0, cells := 0, slots := 0, locals := 0 } s m args below meth c z 0 0 0 0 (zQ D cy A T z (some (.int r))) S 4 4 [(0, .ref x0), (2, .int x2), (3, .int x3)] [] := by
  obtain ⟨hx, hb, hml, hown, hr, hlocks, hT⟩ := id X
  intro H locs ls hH hS hl
  unfold fX8_downFrom_4 at h
  refine lv_aload_n hx hb dX8_downFrom_4 rfl (lv_at hl 0 rfl) ?_
  obtain ⟨v1, ev1, h⟩ := zb_some h
  refine z_getr X flX8_80 hH ev1 dX8_downFrom_5 ?_
  refine lv_iload_n hx hb dX8_downFrom_8 rfl (lv_at hl 2 rfl) ?_
  obtain ⟨v2, ev2, h⟩ := zb_some h
  refine z_iald X hH ev2 dX8_downFrom_9 ?_
  refine lv_if_lt (tgt := 35) hx hb dX8_downFrom_10 (by decide) (fun c => ?_) (fun c => ?_)
  · have h := (if_pos c).symm.trans h
    refine lv_iload_n hx hb dX8_downFrom_35 rfl (lv_at hl 1 rfl) ?_
    exact z_iret X hH hS h dX8_downFrom_36
  · have h := (if_neg c).symm.trans h
    refine lv_iload_n hx hb dX8_downFrom_13 rfl (lv_at hl 1 rfl) ?_
    refine lv_bipush (v := (30 : Int32)) hx hb dX8_downFrom_14 (by decide) ?_
    refine lv_icmp_ne (tgt := 22) hx hb dX8_downFrom_16 (by decide) (fun c => ?_) (fun c => ?_)
    · have h := (if_neg c).symm.trans h
      refine lv_aload_n hx hb dX8_downFrom_22 rfl (lv_at hl 0 rfl) ?_
      obtain ⟨v3, ev3, h⟩ := zb_some h
      refine z_getr X flX8_80 hH ev3 dX8_downFrom_23 ?_
      refine lv_iload_n hx hb dX8_downFrom_26 rfl (lv_at hl 2 rfl) ?_
      obtain ⟨v4, ev4, h⟩ := zb_some h
      refine z_iald X hH ev4 dX8_downFrom_27 ?_
      refine lv_istore_n (lv' := [(3, .int v4), (0, .ref x0), (2, .int x2)]) hx hb dX8_downFrom_28 rfl hl (by decide) rfl (fun ls hl => ?_)
      refine lv_iinc (v := (x2 + (1 : Int32))) (lv' := [(2, .int (x2 + (1 : Int32))), (3, .int v4), (0, .ref x0)]) hx hb dX8_downFrom_29 hl (k := 2) rfl rfl (by decide) rfl (fun ls hl => ?_)
      refine lv_goto (tgt := 4) hx hb dX8_downFrom_32 (by decide) ?_
      exact hK4 _ _ _ _ h _ _ _ hH hS (lv_sub hl [2, 0, 1] rfl)
    · have h := (if_pos c).symm.trans h
      refine lv_bipush (v := (-5 : Int32)) hx hb dX8_downFrom_19 (by decide) ?_
      exact z_iret X hH hS h dX8_downFrom_21
set_option maxRecDepth 100000 in
set_option maxHeartbeats 4000000 in
theorem uX8_downFrom_4 {z : Nat} {N : Nat} {r : Int32} {T : zS} (X : zX D cy p s m meth c cX8_downFrom 4 RX8 (some .int))  {S : zS} {x0 : Nat} {x2 : Int32} {x3 : Int32} (h : lX8_downFrom_4 N S x0 x2 x3 = some (r, T)) : zWt D cy A p l e { frames := 0, cells := 0, slots := 0, locals := 0 } s m args below meth c z 0 0 0 0 (zQ D cy A T z (some (.int r))) S 4 4 [(0, .ref x0), (2, .int x2), (3, .int x3)] [] := by
  unfold lX8_downFrom_4 at h
  exact zloop_ind (P := fun y => zWt D cy A p l e { frames := 0, cells := 0, slots := 0, locals := 0 } s m args below meth c z 0 0 0 0 (zQ D cy A T z (some (.int r))) y.1 4 4 [(0, .ref y.2.1), (2, .int y.2.2.1), (3, .int y.2.2.2)] []) (fun K hK y hy => wX8_downFrom_4 X (fun S x0 x2 x3 hq => hK (S, x0, x2, x3) hq) hy) N (S, x0, x2, x3) h
set_option maxRecDepth 100000 in
set_option maxHeartbeats 4000000 in
theorem wX8_downFrom_0 {z : Nat} {N : Nat} {r : Int32} {T : zS} (X : zX D cy p s m meth c cX8_downFrom 4 RX8 (some .int))  {S : zS} {x0 : Nat} {x1 : Int32} (h : fX8_downFrom_0 N S x0 x1 = some (r, T)) : zWt D cy A p l e { frames := 0, cells := 0, slots := 0, locals := 0 } s m args below meth c z 0 0 0 0 (zQ D cy A T z (some (.int r))) S 4 0 [(0, .ref x0), (1, .int x1)] [] := by
  obtain ⟨hx, hb, hml, hown, hr, hlocks, hT⟩ := id X
  intro H locs ls hH hS hl
  unfold fX8_downFrom_0 at h
  refine lv_iconst (v := (0 : Int32)) hx hb dX8_downFrom_0 (by decide) ?_
  refine lv_istore_n (lv' := [(2, .int (0 : Int32)), (0, .ref x0), (1, .int x1)]) hx hb dX8_downFrom_1 rfl hl (by decide) rfl (fun ls hl => ?_)
  refine lv_iload_n hx hb dX8_downFrom_2 rfl (lv_at hl 2 rfl) ?_
  refine lv_istore_n (lv' := [(3, .int x1), (2, .int (0 : Int32)), (0, .ref x0), (1, .int x1)]) hx hb dX8_downFrom_3 rfl hl (by decide) rfl (fun ls hl => ?_)
  exact uX8_downFrom_4 X h _ _ _ hH hS (lv_sub hl [2, 1, 0] rfl)
set_option maxRecDepth 100000 in
theorem kX8_downFrom {N : Nat} {r : Int32} {T : zS} {S : zS} {z : Nat} {x0 : Nat} {x1 : Int32} (h : fX8_downFrom N S x0 x1 = some (r, T)) : Met l yX8_downFrom [.code yX8_downFrom cX8_downFrom 4 (some .int)] { frames := 0, cells := 0, slots := 0, locals := 0 } (zP D cy A S z [.ref x0, .int x1]) (zQ D cy A T z (some (.int r))) 0 0 A := by
  refine z_met (lv := [(0, .ref x0), (1, .int x1)]) (by decide) (Nat.le_of_ble_eq_true rfl) rfl ?_
  intro p e s m below meth c X H locs ls hH hS hl
  exact wX8_downFrom_0 X h _ _ _ hH hS (lv_sub hl [0, 1] rfl)
set_option maxRecDepth 100000 in
set_option maxHeartbeats 4000000 in
theorem wX8_down_16 {z : Nat} {N : Nat} {r : Int32} {T : zS} (X : zX D cy p s m meth c cX8_down 2 RX8 (some .int))  {S : zS} {y0 : Int32} (h : fX8_down_16 N S y0 = some (r, T)) : zWt D cy A p l e { frames := 2, cells := 0, slots := 0, locals := 42 } s m args below meth c z 0 0 0 0 (zQ D cy A T z (some (.int r))) S 2 16 [] [.int y0] := by
  obtain ⟨hx, hb, hml, hown, hr, hlocks, hT⟩ := id X
  intro H locs ls hH hS hl
  unfold fX8_down_16 at h
  exact z_iret X hH hS h dX8_down_16
set_option maxRecDepth 100000 in
set_option maxHeartbeats 4000000 in
theorem wX8_down_0 {z : Nat} {N : Nat} {r : Int32} {T : zS} (X : zX D cy p s m meth c cX8_down 2 RX8 (some .int))  {S : zS} {x0 : Nat} {x1 : Int32} (h : fX8_down_0 N S x0 x1 = some (r, T)) : zWt D cy A p l e { frames := 2, cells := 0, slots := 0, locals := 42 } s m args below meth c z 0 0 0 0 (zQ D cy A T z (some (.int r))) S 2 0 [(0, .ref x0), (1, .int x1)] [] := by
  obtain ⟨hx, hb, hml, hown, hr, hlocks, hT⟩ := id X
  intro H locs ls hH hS hl
  unfold fX8_down_0 at h
  refine lv_iload_n hx hb dX8_down_0 rfl (lv_at hl 1 rfl) ?_
  obtain ⟨v2, S1, eS1, h⟩ := zb2_some h
  refine z_cS (As := [.int x1]) X hl hH hS mlX8_218 (kX8_isMaker eS1) rfl rfl (Nat.le_of_ble_eq_true rfl) ⟨rfl, rfl, Nat.le_of_ble_eq_true rfl, Nat.le_of_ble_eq_true rfl⟩ ⟨Nat.le_refl _, Nat.le_refl _⟩ dX8_down_1 (fun H locs hH hS => ?_)
  refine lv_if_eq (tgt := 15) hx hb dX8_down_4 (by decide) (fun c => ?_) (fun c => ?_)
  · have h := (if_pos c).symm.trans h
    refine lv_iconst (v := (-1 : Int32)) hx hb dX8_down_15 (by decide) ?_
    exact wX8_down_16 X h _ _ _ hH hS (lv_sub hl [] rfl)
  · have h := (if_neg c).symm.trans h
    refine lv_aload_n hx hb dX8_down_7 rfl (lv_at hl 0 rfl) ?_
    refine lv_iload_n hx hb dX8_down_8 rfl (lv_at hl 1 rfl) ?_
    obtain ⟨u3, eu3, h⟩ := zb_some h
    obtain ⟨v5, S4, eS4, h⟩ := zb2_some h
    refine z_cV (As := [.int x1]) X hl hH hS mlX8_221 eu3 (kX8_downFrom eS4) rfl rfl (Nat.le_of_ble_eq_true rfl) ⟨rfl, rfl, Nat.le_of_ble_eq_true rfl, Nat.le_of_ble_eq_true rfl⟩ ⟨Nat.le_refl _, Nat.le_refl _⟩ dX8_down_9 (fun H locs hH hS => ?_)
    refine lv_goto (tgt := 16) hx hb dX8_down_12 (by decide) ?_
    exact wX8_down_16 X h _ _ _ hH hS (lv_sub hl [] rfl)
set_option maxRecDepth 100000 in
theorem kX8_down {N : Nat} {r : Int32} {T : zS} {S : zS} {z : Nat} {x0 : Nat} {x1 : Int32} (h : fX8_down N S x0 x1 = some (r, T)) : Met l yX8_down [.code yX8_down cX8_down 2 (some .int)] { frames := 2, cells := 0, slots := 0, locals := 42 } (zP D cy A S z [.ref x0, .int x1]) (zQ D cy A T z (some (.int r))) 0 0 A := by
  refine z_met (lv := [(0, .ref x0), (1, .int x1)]) (by decide) (Nat.le_of_ble_eq_true rfl) rfl ?_
  intro p e s m below meth c X H locs ls hH hS hl
  exact wX8_down_0 X h _ _ _ hH hS (lv_sub hl [0, 1] rfl)
set_option maxRecDepth 100000 in
set_option maxHeartbeats 4000000 in
theorem wX8_walk_89 {z : Nat} {N : Nat} {r : Int32} {T : zS} (X : zX D cy p s m meth c cX8_walk 3 RX8 (some .int))  {S : zS} {y0 : Int32} (h : fX8_walk_89 N S y0 = some (r, T)) : zWt D cy A p l e { frames := 0, cells := 0, slots := 0, locals := 0 } s m args below meth c z 0 0 0 0 (zQ D cy A T z (some (.int r))) S 3 89 [] [.int y0] := by
  obtain ⟨hx, hb, hml, hown, hr, hlocks, hT⟩ := id X
  intro H locs ls hH hS hl
  unfold fX8_walk_89 at h
  exact z_iret X hH hS h dX8_walk_89
set_option maxRecDepth 100000 in
set_option maxHeartbeats 4000000 in
theorem wX8_walk_70 {z : Nat} {N : Nat} {r : Int32} {T : zS} (X : zX D cy p s m meth c cX8_walk 3 RX8 (some .int))  {S : zS} {x0 : Nat} {x2 : Int32} (h : fX8_walk_70 N S x0 x2 = some (r, T)) : zWt D cy A p l e { frames := 0, cells := 0, slots := 0, locals := 0 } s m args below meth c z 0 0 0 0 (zQ D cy A T z (some (.int r))) S 3 70 [(0, .ref x0), (2, .int x2)] [] := by
  obtain ⟨hx, hb, hml, hown, hr, hlocks, hT⟩ := id X
  intro H locs ls hH hS hl
  unfold fX8_walk_70 at h
  refine lv_aload_n hx hb dX8_walk_70 rfl (lv_at hl 0 rfl) ?_
  obtain ⟨v1, ev1, h⟩ := zb_some h
  refine z_getr X flX8_80 hH ev1 dX8_walk_71 ?_
  refine lv_iload_n hx hb dX8_walk_74 rfl (lv_at hl 1 rfl) ?_
  obtain ⟨v2, ev2, h⟩ := zb_some h
  refine z_iald X hH ev2 dX8_walk_75 ?_
  refine lv_if_ge (tgt := 83) hx hb dX8_walk_76 (by decide) (fun c => ?_) (fun c => ?_)
  · have h := (if_pos c).symm.trans h
    refine lv_aload_n hx hb dX8_walk_83 rfl (lv_at hl 0 rfl) ?_
    obtain ⟨v3, ev3, h⟩ := zb_some h
    refine z_getr X flX8_80 hH ev3 dX8_walk_84 ?_
    refine lv_iload_n hx hb dX8_walk_87 rfl (lv_at hl 1 rfl) ?_
    obtain ⟨v4, ev4, h⟩ := zb_some h
    refine z_iald X hH ev4 dX8_walk_88 ?_
    exact wX8_walk_89 X h _ _ _ hH hS (lv_sub hl [] rfl)
  · have h := (if_neg c).symm.trans h
    refine lv_iload_n hx hb dX8_walk_79 rfl (lv_at hl 1 rfl) ?_
    refine lv_goto (tgt := 89) hx hb dX8_walk_80 (by decide) ?_
    exact wX8_walk_89 X h _ _ _ hH hS (lv_sub hl [] rfl)
set_option maxRecDepth 100000 in
set_option maxHeartbeats 4000000 in
theorem wX8_walk_30 {z : Nat} {N : Nat} {r : Int32} {T : zS} (X : zX D cy p s m meth c cX8_walk 3 RX8 (some .int)) {K30 : zS × Nat × Int32 → Option (Int32 × zS)} (hK30 : ∀ (S : zS) (x0 : Nat) (x2 : Int32), K30 (S, x0, x2) = some (r, T) → zWt D cy A p l e { frames := 0, cells := 0, slots := 0, locals := 0 } s m args below meth c z 0 0 0 0 (zQ D cy A T z (some (.int r))) S 3 30 [(0, .ref x0), (2, .int x2)] []) {S : zS} {x0 : Nat} {x2 : Int32} (h : fX8_walk_30 N K30 S x0 x2 = some (r, T)) : zWt D cy A p l e { frames := 0, cells := 0, slots := 0, locals := 0 } s m args below meth c z 0 0 0 0 (zQ D cy A T z (some (.int r))) S 3 30 [(0, .ref x0), (2, .int x2)] [] := by
  obtain ⟨hx, hb, hml, hown, hr, hlocks, hT⟩ := id X
  intro H locs ls hH hS hl
  unfold fX8_walk_30 at h
  refine lv_aload_n hx hb dX8_walk_30 rfl (lv_at hl 0 rfl) ?_
  obtain ⟨v5, ev5, h⟩ := zb_some h
  refine z_getr X flX8_80 hH ev5 dX8_walk_31 ?_
  refine lv_iload_n hx hb dX8_walk_34 rfl (lv_at hl 1 rfl) ?_
  obtain ⟨v6, ev6, h⟩ := zb_some h
  refine z_iald X hH ev6 dX8_walk_35 ?_
  refine lv_if_lt (tgt := 70) hx hb dX8_walk_36 (by decide) (fun c => ?_) (fun c => ?_)
  · have h := (if_pos c).symm.trans h
    exact wX8_walk_70 X h _ _ _ hH hS (lv_sub hl [0, 1] rfl)
  · have h := (if_neg c).symm.trans h
    refine lv_aload_n hx hb dX8_walk_39 rfl (lv_at hl 0 rfl) ?_
    obtain ⟨v7, ev7, h⟩ := zb_some h
    refine z_getr X flX8_89 hH ev7 dX8_walk_40 ?_
    refine lv_aload_n hx hb dX8_walk_43 rfl (lv_at hl 0 rfl) ?_
    obtain ⟨v8, ev8, h⟩ := zb_some h
    refine z_getr X flX8_80 hH ev8 dX8_walk_44 ?_
    refine lv_iload_n hx hb dX8_walk_47 rfl (lv_at hl 1 rfl) ?_
    obtain ⟨v9, ev9, h⟩ := zb_some h
    refine z_iald X hH ev9 dX8_walk_48 ?_
    obtain ⟨v10, ev10, h⟩ := zb_some h
    refine z_zald X hH ev10 dX8_walk_49 ?_
    refine lv_if_ne (tgt := 70) hx hb dX8_walk_50 (by decide) (fun c => ?_) (fun c => ?_)
    · have h := (if_neg c).symm.trans h
      exact wX8_walk_70 X h _ _ _ hH hS (lv_sub hl [0, 1] rfl)
    · have h := (if_pos c).symm.trans h
      refine lv_aload_n hx hb dX8_walk_53 rfl (lv_at hl 0 rfl) ?_
      obtain ⟨v11, ev11, h⟩ := zb_some h
      refine z_getr X flX8_80 hH ev11 dX8_walk_54 ?_
      refine lv_iload_n hx hb dX8_walk_57 rfl (lv_at hl 1 rfl) ?_
      obtain ⟨v12, ev12, h⟩ := zb_some h
      refine z_iald X hH ev12 dX8_walk_58 ?_
      refine lv_istore_n (lv' := [(2, .int v12), (0, .ref x0)]) hx hb dX8_walk_59 rfl hl (by decide) rfl (fun ls hl => ?_)
      refine lv_aload_n hx hb dX8_walk_60 rfl (lv_at hl 1 rfl) ?_
      obtain ⟨v13, ev13, h⟩ := zb_some h
      refine z_getr X flX8_89 hH ev13 dX8_walk_61 ?_
      refine lv_iload_n hx hb dX8_walk_64 rfl (lv_at hl 0 rfl) ?_
      refine lv_iconst (v := (1 : Int32)) hx hb dX8_walk_65 (by decide) ?_
      obtain ⟨S14, eS14, h⟩ := zb_some h
      refine z_zast X hH hS eS14 dX8_walk_66 (fun H locs hH hS => ?_)
      refine lv_goto (tgt := 30) hx hb dX8_walk_67 (by decide) ?_
      exact hK30 _ _ _ h _ _ _ hH hS (lv_sub hl [1, 0] rfl)
set_option maxRecDepth 100000 in
set_option maxHeartbeats 4000000 in
theorem uX8_walk_30 {z : Nat} {N : Nat} {r : Int32} {T : zS} (X : zX D cy p s m meth c cX8_walk 3 RX8 (some .int))  {S : zS} {x0 : Nat} {x2 : Int32} (h : lX8_walk_30 N S x0 x2 = some (r, T)) : zWt D cy A p l e { frames := 0, cells := 0, slots := 0, locals := 0 } s m args below meth c z 0 0 0 0 (zQ D cy A T z (some (.int r))) S 3 30 [(0, .ref x0), (2, .int x2)] [] := by
  unfold lX8_walk_30 at h
  exact zloop_ind (P := fun y => zWt D cy A p l e { frames := 0, cells := 0, slots := 0, locals := 0 } s m args below meth c z 0 0 0 0 (zQ D cy A T z (some (.int r))) y.1 3 30 [(0, .ref y.2.1), (2, .int y.2.2)] []) (fun K hK y hy => wX8_walk_30 X (fun S x0 x2 hq => hK (S, x0, x2) hq) hy) N (S, x0, x2) h
set_option maxRecDepth 100000 in
set_option maxHeartbeats 4000000 in
theorem wX8_walk_2 {z : Nat} {N : Nat} {r : Int32} {T : zS} (X : zX D cy p s m meth c cX8_walk 3 RX8 (some .int)) {K2 : zS × Nat × Int32 × Int32 → Option (Int32 × zS)} (hK2 : ∀ (S : zS) (x0 : Nat) (x1 : Int32) (x2 : Int32), K2 (S, x0, x1, x2) = some (r, T) → zWt D cy A p l e { frames := 0, cells := 0, slots := 0, locals := 0 } s m args below meth c z 0 0 0 0 (zQ D cy A T z (some (.int r))) S 3 2 [(0, .ref x0), (1, .int x1), (2, .int x2)] []) {S : zS} {x0 : Nat} {x1 : Int32} {x2 : Int32} (h : fX8_walk_2 N K2 S x0 x1 x2 = some (r, T)) : zWt D cy A p l e { frames := 0, cells := 0, slots := 0, locals := 0 } s m args below meth c z 0 0 0 0 (zQ D cy A T z (some (.int r))) S 3 2 [(0, .ref x0), (1, .int x1), (2, .int x2)] [] := by
  obtain ⟨hx, hb, hml, hown, hr, hlocks, hT⟩ := id X
  intro H locs ls hH hS hl
  unfold fX8_walk_2 at h
  refine lv_iload_n hx hb dX8_walk_2 rfl (lv_at hl 2 rfl) ?_
  refine lv_bipush (v := (30 : Int32)) hx hb dX8_walk_3 (by decide) ?_
  refine lv_icmp_ge (tgt := 21) hx hb dX8_walk_5 (by decide) (fun c => ?_) (fun c => ?_)
  · have h := (if_pos c).symm.trans h
    refine lv_iload_n hx hb dX8_walk_21 rfl (lv_at hl 1 rfl) ?_
    refine lv_istore_n (lv' := [(2, .int x1), (0, .ref x0), (1, .int x1)]) hx hb dX8_walk_22 rfl hl (by decide) rfl (fun ls hl => ?_)
    refine lv_aload_n hx hb dX8_walk_23 rfl (lv_at hl 1 rfl) ?_
    obtain ⟨v15, ev15, h⟩ := zb_some h
    refine z_getr X flX8_89 hH ev15 dX8_walk_24 ?_
    refine lv_iload_n hx hb dX8_walk_27 rfl (lv_at hl 2 rfl) ?_
    refine lv_iconst (v := (1 : Int32)) hx hb dX8_walk_28 (by decide) ?_
    obtain ⟨S16, eS16, h⟩ := zb_some h
    refine z_zast X hH hS eS16 dX8_walk_29 (fun H locs hH hS => ?_)
    exact uX8_walk_30 X h _ _ _ hH hS (lv_sub hl [1, 0] rfl)
  · have h := (if_neg c).symm.trans h
    refine lv_aload_n hx hb dX8_walk_8 rfl (lv_at hl 0 rfl) ?_
    obtain ⟨v17, ev17, h⟩ := zb_some h
    refine z_getr X flX8_89 hH ev17 dX8_walk_9 ?_
    refine lv_iload_n hx hb dX8_walk_12 rfl (lv_at hl 2 rfl) ?_
    refine lv_iconst (v := (0 : Int32)) hx hb dX8_walk_13 (by decide) ?_
    obtain ⟨S18, eS18, h⟩ := zb_some h
    refine z_zast X hH hS eS18 dX8_walk_14 (fun H locs hH hS => ?_)
    refine lv_iinc (v := (x2 + (1 : Int32))) (lv' := [(2, .int (x2 + (1 : Int32))), (0, .ref x0), (1, .int x1)]) hx hb dX8_walk_15 hl (k := 2) rfl rfl (by decide) rfl (fun ls hl => ?_)
    refine lv_goto (tgt := 2) hx hb dX8_walk_18 (by decide) ?_
    exact hK2 _ _ _ _ h _ _ _ hH hS (lv_sub hl [1, 2, 0] rfl)
set_option maxRecDepth 100000 in
set_option maxHeartbeats 4000000 in
theorem uX8_walk_2 {z : Nat} {N : Nat} {r : Int32} {T : zS} (X : zX D cy p s m meth c cX8_walk 3 RX8 (some .int))  {S : zS} {x0 : Nat} {x1 : Int32} {x2 : Int32} (h : lX8_walk_2 N S x0 x1 x2 = some (r, T)) : zWt D cy A p l e { frames := 0, cells := 0, slots := 0, locals := 0 } s m args below meth c z 0 0 0 0 (zQ D cy A T z (some (.int r))) S 3 2 [(0, .ref x0), (1, .int x1), (2, .int x2)] [] := by
  unfold lX8_walk_2 at h
  exact zloop_ind (P := fun y => zWt D cy A p l e { frames := 0, cells := 0, slots := 0, locals := 0 } s m args below meth c z 0 0 0 0 (zQ D cy A T z (some (.int r))) y.1 3 2 [(0, .ref y.2.1), (1, .int y.2.2.1), (2, .int y.2.2.2)] []) (fun K hK y hy => wX8_walk_2 X (fun S x0 x1 x2 hq => hK (S, x0, x1, x2) hq) hy) N (S, x0, x1, x2) h
set_option maxRecDepth 100000 in
set_option maxHeartbeats 4000000 in
theorem wX8_walk_0 {z : Nat} {N : Nat} {r : Int32} {T : zS} (X : zX D cy p s m meth c cX8_walk 3 RX8 (some .int))  {S : zS} {x0 : Nat} {x1 : Int32} (h : fX8_walk_0 N S x0 x1 = some (r, T)) : zWt D cy A p l e { frames := 0, cells := 0, slots := 0, locals := 0 } s m args below meth c z 0 0 0 0 (zQ D cy A T z (some (.int r))) S 3 0 [(0, .ref x0), (1, .int x1)] [] := by
  obtain ⟨hx, hb, hml, hown, hr, hlocks, hT⟩ := id X
  intro H locs ls hH hS hl
  unfold fX8_walk_0 at h
  refine lv_iconst (v := (0 : Int32)) hx hb dX8_walk_0 (by decide) ?_
  refine lv_istore_n (lv' := [(2, .int (0 : Int32)), (0, .ref x0), (1, .int x1)]) hx hb dX8_walk_1 rfl hl (by decide) rfl (fun ls hl => ?_)
  exact uX8_walk_2 X h _ _ _ hH hS (lv_sub hl [1, 2, 0] rfl)
set_option maxRecDepth 100000 in
theorem kX8_walk {N : Nat} {r : Int32} {T : zS} {S : zS} {z : Nat} {x0 : Nat} {x1 : Int32} (h : fX8_walk N S x0 x1 = some (r, T)) : Met l yX8_walk [.code yX8_walk cX8_walk 3 (some .int)] { frames := 0, cells := 0, slots := 0, locals := 0 } (zP D cy A S z [.ref x0, .int x1]) (zQ D cy A T z (some (.int r))) 0 0 A := by
  refine z_met (lv := [(0, .ref x0), (1, .int x1)]) (by decide) (Nat.le_of_ble_eq_true rfl) rfl ?_
  intro p e s m below meth c X H locs ls hH hS hl
  exact wX8_walk_0 X h _ _ _ hH hS (lv_sub hl [0, 1] rfl)
set_option maxRecDepth 100000 in
set_option maxHeartbeats 4000000 in
theorem wX8_ring_40 {z : Nat} {N : Nat} {r : Int32} {T : zS} (X : zX D cy p s m meth c cX8_ring 6 RX8 (some .int)) {K40 : zS × Nat × Int32 × Int32 × Int32 × Int32 → Option (Int32 × zS)} (hK40 : ∀ (S : zS) (x0 : Nat) (x2 : Int32) (x3 : Int32) (x4 : Int32) (x5 : Int32), K40 (S, x0, x2, x3, x4, x5) = some (r, T) → zWt D cy A p l e { frames := 2, cells := 0, slots := 0, locals := 42 } s m args below meth c z 0 0 0 0 (zQ D cy A T z (some (.int r))) S 6 40 [(0, .ref x0), (2, .int x2), (3, .int x3), (4, .int x4), (5, .int x5)] []) {S : zS} {x0 : Nat} {x2 : Int32} {x3 : Int32} {x4 : Int32} {x5 : Int32} (h : fX8_ring_40 N K40 S x0 x2 x3 x4 x5 = some (r, T)) : zWt D cy A p l e { frames := 2, cells := 0, slots := 0, locals := 42 } s m args below meth c z 0 0 0 0 (zQ D cy A T z (some (.int r))) S 6 40 [(0, .ref x0), (2, .int x2), (3, .int x3), (4, .int x4), (5, .int x5)] [] := by
  obtain ⟨hx, hb, hml, hown, hr, hlocks, hT⟩ := id X
  intro H locs ls hH hS hl
  unfold fX8_ring_40 at h
  refine lv_iload hx hb dX8_ring_40 (lv_at hl 4 rfl) ?_
  refine lv_iload_n hx hb dX8_ring_42 rfl (lv_at hl 1 rfl) ?_
  refine lv_icmp_ge (tgt := 69) hx hb dX8_ring_43 (by decide) (fun c => ?_) (fun c => ?_)
  · have h := (if_pos c).symm.trans h
    refine lv_iload hx hb dX8_ring_69 (lv_at hl 3 rfl) ?_
    exact z_iret X hH hS h dX8_ring_71
  · have h := (if_neg c).symm.trans h
    refine lv_aload_n hx hb dX8_ring_46 rfl (lv_at hl 0 rfl) ?_
    obtain ⟨v1, ev1, h⟩ := zb_some h
    refine z_getr X flX8_80 hH ev1 dX8_ring_47 ?_
    refine lv_iload hx hb dX8_ring_50 (lv_at hl 3 rfl) ?_
    obtain ⟨v2, ev2, h⟩ := zb_some h
    refine z_iald X hH ev2 dX8_ring_52 ?_
    refine lv_istore (lv' := [(4, .int v2), (0, .ref x0), (2, .int x2), (3, .int x3), (5, .int x5)]) hx hb dX8_ring_53 hl (by decide) rfl (fun ls hl => ?_)
    refine lv_iload hx hb dX8_ring_55 (lv_at hl 0 rfl) ?_
    refine lv_iload_n hx hb dX8_ring_57 rfl (lv_at hl 3 rfl) ?_
    refine lv_icmp_ne (tgt := 63) hx hb dX8_ring_58 (by decide) (fun c => ?_) (fun c => ?_)
    · have h := (if_neg c).symm.trans h
      refine lv_iinc (v := (x5 + (1 : Int32))) (lv' := [(5, .int (x5 + (1 : Int32))), (4, .int v2), (0, .ref x0), (2, .int x2), (3, .int x3)]) hx hb dX8_ring_63 hl (k := 4) rfl rfl (by decide) rfl (fun ls hl => ?_)
      refine lv_goto (tgt := 40) hx hb dX8_ring_66 (by decide) ?_
      exact hK40 _ _ _ _ _ _ h _ _ _ hH hS (lv_sub hl [2, 3, 4, 1, 0] rfl)
    · have h := (if_pos c).symm.trans h
      refine lv_iconst (v := (-1 : Int32)) hx hb dX8_ring_61 (by decide) ?_
      exact z_iret X hH hS h dX8_ring_62
set_option maxRecDepth 100000 in
set_option maxHeartbeats 4000000 in
theorem uX8_ring_40 {z : Nat} {N : Nat} {r : Int32} {T : zS} (X : zX D cy p s m meth c cX8_ring 6 RX8 (some .int))  {S : zS} {x0 : Nat} {x2 : Int32} {x3 : Int32} {x4 : Int32} {x5 : Int32} (h : lX8_ring_40 N S x0 x2 x3 x4 x5 = some (r, T)) : zWt D cy A p l e { frames := 2, cells := 0, slots := 0, locals := 42 } s m args below meth c z 0 0 0 0 (zQ D cy A T z (some (.int r))) S 6 40 [(0, .ref x0), (2, .int x2), (3, .int x3), (4, .int x4), (5, .int x5)] [] := by
  unfold lX8_ring_40 at h
  exact zloop_ind (P := fun y => zWt D cy A p l e { frames := 2, cells := 0, slots := 0, locals := 42 } s m args below meth c z 0 0 0 0 (zQ D cy A T z (some (.int r))) y.1 6 40 [(0, .ref y.2.1), (2, .int y.2.2.1), (3, .int y.2.2.2.1), (4, .int y.2.2.2.2.1), (5, .int y.2.2.2.2.2)] []) (fun K hK y hy => wX8_ring_40 X (fun S x0 x2 x3 x4 x5 hq => hK (S, x0, x2, x3, x4, x5) hq) hy) N (S, x0, x2, x3, x4, x5) h
set_option maxRecDepth 100000 in
set_option maxHeartbeats 4000000 in
theorem wX8_ring_0 {z : Nat} {N : Nat} {r : Int32} {T : zS} (X : zX D cy p s m meth c cX8_ring 6 RX8 (some .int))  {S : zS} {x0 : Nat} {x1 : Int32} {x2 : Int32} (h : fX8_ring_0 N S x0 x1 x2 = some (r, T)) : zWt D cy A p l e { frames := 2, cells := 0, slots := 0, locals := 42 } s m args below meth c z 0 0 0 0 (zQ D cy A T z (some (.int r))) S 6 0 [(0, .ref x0), (1, .int x1), (2, .int x2)] [] := by
  obtain ⟨hx, hb, hml, hown, hr, hlocks, hT⟩ := id X
  intro H locs ls hH hS hl
  unfold fX8_ring_0 at h
  refine lv_iload_n hx hb dX8_ring_0 rfl (lv_at hl 1 rfl) ?_
  obtain ⟨v4, S3, eS3, h⟩ := zb2_some h
  refine z_cS (As := [.int x1]) X hl hH hS mlX8_218 (kX8_isMaker eS3) rfl rfl (Nat.le_of_ble_eq_true rfl) ⟨rfl, rfl, Nat.le_of_ble_eq_true rfl, Nat.le_of_ble_eq_true rfl⟩ ⟨Nat.le_refl _, Nat.le_refl _⟩ dX8_ring_1 (fun H locs hH hS => ?_)
  refine lv_if_ne (tgt := 9) hx hb dX8_ring_4 (by decide) (fun c => ?_) (fun c => ?_)
  · have h := (if_neg c).symm.trans h
    refine lv_aload_n hx hb dX8_ring_9 rfl (lv_at hl 0 rfl) ?_
    refine lv_iload_n hx hb dX8_ring_10 rfl (lv_at hl 1 rfl) ?_
    obtain ⟨u5, eu5, h⟩ := zb_some h
    obtain ⟨v7, S6, eS6, h⟩ := zb2_some h
    refine z_cV (As := [.int x1]) X hl hH hS mlX8_221 eu5 (kX8_downFrom eS6) rfl rfl (Nat.le_of_ble_eq_true rfl) ⟨rfl, rfl, Nat.le_of_ble_eq_true rfl, Nat.le_of_ble_eq_true rfl⟩ ⟨Nat.le_refl _, Nat.le_refl _⟩ dX8_ring_11 (fun H locs hH hS => ?_)
    refine lv_bipush (v := (-5 : Int32)) hx hb dX8_ring_14 (by decide) ?_
    refine lv_icmp_eq (tgt := 22) hx hb dX8_ring_16 (by decide) (fun c => ?_) (fun c => ?_)
    · have h := (if_pos c).symm.trans h
      refine lv_aload_n hx hb dX8_ring_22 rfl (lv_at hl 0 rfl) ?_
      refine lv_iload_n hx hb dX8_ring_23 rfl (lv_at hl 1 rfl) ?_
      obtain ⟨u8, eu8, h⟩ := zb_some h
      obtain ⟨v10, S9, eS9, h⟩ := zb2_some h
      refine z_cV (As := [.int x1]) X hl hH hS mlX8_224 eu8 (kX8_walk eS9) rfl rfl (Nat.le_of_ble_eq_true rfl) ⟨rfl, rfl, Nat.le_of_ble_eq_true rfl, Nat.le_of_ble_eq_true rfl⟩ ⟨Nat.le_refl _, Nat.le_refl _⟩ dX8_ring_24 (fun H locs hH hS => ?_)
      refine lv_istore_n (lv' := [(3, .int v10), (0, .ref x0), (1, .int x1), (2, .int x2)]) hx hb dX8_ring_27 rfl hl (by decide) rfl (fun ls hl => ?_)
      refine lv_iload_n hx hb dX8_ring_28 rfl (lv_at hl 3 rfl) ?_
      refine lv_if_ge (tgt := 34) hx hb dX8_ring_29 (by decide) (fun c => ?_) (fun c => ?_)
      · have h := (if_pos c).symm.trans h
        refine lv_iload_n hx hb dX8_ring_34 rfl (lv_at hl 0 rfl) ?_
        refine lv_istore (lv' := [(4, .int v10), (3, .int v10), (0, .ref x0), (1, .int x1), (2, .int x2)]) hx hb dX8_ring_35 hl (by decide) rfl (fun ls hl => ?_)
        refine lv_iconst (v := (0 : Int32)) hx hb dX8_ring_37 (by decide) ?_
        refine lv_istore (lv' := [(5, .int (0 : Int32)), (4, .int v10), (3, .int v10), (0, .ref x0), (1, .int x1), (2, .int x2)]) hx hb dX8_ring_38 hl (by decide) rfl (fun ls hl => ?_)
        exact uX8_ring_40 X h _ _ _ hH hS (lv_sub hl [3, 5, 2, 1, 0] rfl)
      · have h := (if_neg c).symm.trans h
        refine lv_iconst (v := (-1 : Int32)) hx hb dX8_ring_32 (by decide) ?_
        exact z_iret X hH hS h dX8_ring_33
    · have h := (if_neg c).symm.trans h
      refine lv_bipush (v := (-2 : Int32)) hx hb dX8_ring_19 (by decide) ?_
      exact z_iret X hH hS h dX8_ring_21
  · have h := (if_pos c).symm.trans h
    refine lv_iconst (v := (-1 : Int32)) hx hb dX8_ring_7 (by decide) ?_
    exact z_iret X hH hS h dX8_ring_8
set_option maxRecDepth 100000 in
theorem kX8_ring {N : Nat} {r : Int32} {T : zS} {S : zS} {z : Nat} {x0 : Nat} {x1 : Int32} {x2 : Int32} (h : fX8_ring N S x0 x1 x2 = some (r, T)) : Met l yX8_ring [.code yX8_ring cX8_ring 6 (some .int)] { frames := 2, cells := 0, slots := 0, locals := 42 } (zP D cy A S z [.ref x0, .int x1, .int x2]) (zQ D cy A T z (some (.int r))) 0 0 A := by
  refine z_met (lv := [(0, .ref x0), (1, .int x1), (2, .int x2)]) (by decide) (Nat.le_of_ble_eq_true rfl) rfl ?_
  intro p e s m below meth c X H locs ls hH hS hl
  exact wX8_ring_0 X h _ _ _ hH hS (lv_sub hl [0, 1, 2] rfl)
set_option maxRecDepth 100000 in
set_option maxHeartbeats 4000000 in
theorem wX8_needs_141 {z : Nat} {N : Nat} {r : Int32} {T : zS} (X : zX D cy p s m meth c cX8_needs 6 RX8 (some .int)) {K103 : zS × Nat × Int32 × Int32 × Int32 → Option (Int32 × zS)} (hK103 : ∀ (S : zS) (x0 : Nat) (x2 : Int32) (x4 : Int32) (x5 : Int32), K103 (S, x0, x2, x4, x5) = some (r, T) → zWt D cy A p l e { frames := 2, cells := 0, slots := 0, locals := 42 } s m args below meth c z 0 0 0 0 (zQ D cy A T z (some (.int r))) S 6 103 [(0, .ref x0), (2, .int x2), (4, .int x4), (5, .int x5)] []) {S : zS} {x0 : Nat} {x2 : Int32} {x5 : Int32} {y0 : Int32} {y1 : Int32} (h : fX8_needs_141 N K103 S x0 x2 x5 y0 y1 = some (r, T)) : zWt D cy A p l e { frames := 2, cells := 0, slots := 0, locals := 42 } s m args below meth c z 0 0 0 0 (zQ D cy A T z (some (.int r))) S 6 141 [(0, .ref x0), (2, .int x2), (5, .int x5)] [.int y1, .int y0] := by
  obtain ⟨hx, hb, hml, hown, hr, hlocks, hT⟩ := id X
  intro H locs ls hH hS hl
  unfold fX8_needs_141 at h
  refine lv_iadd hx hb dX8_needs_141 ?_
  refine lv_istore (lv' := [(4, .int (y0 + y1)), (0, .ref x0), (2, .int x2), (5, .int x5)]) hx hb dX8_needs_142 hl (by decide) rfl (fun ls hl => ?_)
  refine lv_iinc (v := (x5 + (1 : Int32))) (lv' := [(5, .int (x5 + (1 : Int32))), (4, .int (y0 + y1)), (0, .ref x0), (2, .int x2)]) hx hb dX8_needs_144 hl (k := 3) rfl rfl (by decide) rfl (fun ls hl => ?_)
  refine lv_goto (tgt := 103) hx hb dX8_needs_147 (by decide) ?_
  exact hK103 _ _ _ _ _ h _ _ _ hH hS (lv_sub hl [2, 3, 1, 0] rfl)
set_option maxRecDepth 100000 in
set_option maxHeartbeats 4000000 in
theorem wX8_needs_140 {z : Nat} {N : Nat} {r : Int32} {T : zS} (X : zX D cy p s m meth c cX8_needs 6 RX8 (some .int)) {K103 : zS × Nat × Int32 × Int32 × Int32 → Option (Int32 × zS)} (hK103 : ∀ (S : zS) (x0 : Nat) (x2 : Int32) (x4 : Int32) (x5 : Int32), K103 (S, x0, x2, x4, x5) = some (r, T) → zWt D cy A p l e { frames := 2, cells := 0, slots := 0, locals := 42 } s m args below meth c z 0 0 0 0 (zQ D cy A T z (some (.int r))) S 6 103 [(0, .ref x0), (2, .int x2), (4, .int x4), (5, .int x5)] []) {S : zS} {x0 : Nat} {x2 : Int32} {x5 : Int32} {y0 : Int32} (h : fX8_needs_140 N K103 S x0 x2 x5 y0 = some (r, T)) : zWt D cy A p l e { frames := 2, cells := 0, slots := 0, locals := 42 } s m args below meth c z 0 0 0 0 (zQ D cy A T z (some (.int r))) S 6 140 [(0, .ref x0), (2, .int x2), (5, .int x5)] [.int y0] := by
  obtain ⟨hx, hb, hml, hown, hr, hlocks, hT⟩ := id X
  intro H locs ls hH hS hl
  unfold fX8_needs_140 at h
  refine lv_iconst (v := (0 : Int32)) hx hb dX8_needs_140 (by decide) ?_
  exact wX8_needs_141 X hK103 h _ _ _ hH hS (lv_sub hl [0, 1, 2] rfl)
set_option maxRecDepth 100000 in
set_option maxHeartbeats 4000000 in
theorem wX8_needs_136 {z : Nat} {N : Nat} {r : Int32} {T : zS} (X : zX D cy p s m meth c cX8_needs 6 RX8 (some .int)) {K103 : zS × Nat × Int32 × Int32 × Int32 → Option (Int32 × zS)} (hK103 : ∀ (S : zS) (x0 : Nat) (x2 : Int32) (x4 : Int32) (x5 : Int32), K103 (S, x0, x2, x4, x5) = some (r, T) → zWt D cy A p l e { frames := 2, cells := 0, slots := 0, locals := 42 } s m args below meth c z 0 0 0 0 (zQ D cy A T z (some (.int r))) S 6 103 [(0, .ref x0), (2, .int x2), (4, .int x4), (5, .int x5)] []) {S : zS} {x0 : Nat} {x2 : Int32} {x5 : Int32} {y0 : Int32} (h : fX8_needs_136 N K103 S x0 x2 x5 y0 = some (r, T)) : zWt D cy A p l e { frames := 2, cells := 0, slots := 0, locals := 42 } s m args below meth c z 0 0 0 0 (zQ D cy A T z (some (.int r))) S 6 136 [(0, .ref x0), (2, .int x2), (5, .int x5)] [.int y0] := by
  obtain ⟨hx, hb, hml, hown, hr, hlocks, hT⟩ := id X
  intro H locs ls hH hS hl
  unfold fX8_needs_136 at h
  refine lv_iconst (v := (1 : Int32)) hx hb dX8_needs_136 (by decide) ?_
  refine lv_goto (tgt := 141) hx hb dX8_needs_137 (by decide) ?_
  exact wX8_needs_141 X hK103 h _ _ _ hH hS (lv_sub hl [0, 1, 2] rfl)
set_option maxRecDepth 100000 in
set_option maxHeartbeats 4000000 in
theorem wX8_needs_103 {z : Nat} {N : Nat} {r : Int32} {T : zS} (X : zX D cy p s m meth c cX8_needs 6 RX8 (some .int)) {K103 : zS × Nat × Int32 × Int32 × Int32 → Option (Int32 × zS)} (hK103 : ∀ (S : zS) (x0 : Nat) (x2 : Int32) (x4 : Int32) (x5 : Int32), K103 (S, x0, x2, x4, x5) = some (r, T) → zWt D cy A p l e { frames := 2, cells := 0, slots := 0, locals := 42 } s m args below meth c z 0 0 0 0 (zQ D cy A T z (some (.int r))) S 6 103 [(0, .ref x0), (2, .int x2), (4, .int x4), (5, .int x5)] []) {S : zS} {x0 : Nat} {x2 : Int32} {x4 : Int32} {x5 : Int32} (h : fX8_needs_103 N K103 S x0 x2 x4 x5 = some (r, T)) : zWt D cy A p l e { frames := 2, cells := 0, slots := 0, locals := 42 } s m args below meth c z 0 0 0 0 (zQ D cy A T z (some (.int r))) S 6 103 [(0, .ref x0), (2, .int x2), (4, .int x4), (5, .int x5)] [] := by
  obtain ⟨hx, hb, hml, hown, hr, hlocks, hT⟩ := id X
  intro H locs ls hH hS hl
  unfold fX8_needs_103 at h
  refine lv_iload hx hb dX8_needs_103 (lv_at hl 3 rfl) ?_
  refine lv_bipush (v := (20 : Int32)) hx hb dX8_needs_105 (by decide) ?_
  refine lv_icmp_ge (tgt := 150) hx hb dX8_needs_107 (by decide) (fun c => ?_) (fun c => ?_)
  · have h := (if_pos c).symm.trans h
    refine lv_iload hx hb dX8_needs_150 (lv_at hl 2 rfl) ?_
    exact z_iret X hH hS h dX8_needs_152
  · have h := (if_neg c).symm.trans h
    refine lv_iload hx hb dX8_needs_110 (lv_at hl 2 rfl) ?_
    refine lv_aload_n hx hb dX8_needs_112 rfl (lv_at hl 0 rfl) ?_
    obtain ⟨v1, ev1, h⟩ := zb_some h
    refine z_getr X flX8_92 hH ev1 dX8_needs_113 ?_
    refine lv_iload hx hb dX8_needs_116 (lv_at hl 3 rfl) ?_
    obtain ⟨v2, ev2, h⟩ := zb_some h
    refine z_zald X hH ev2 dX8_needs_118 ?_
    refine lv_if_eq (tgt := 140) hx hb dX8_needs_119 (by decide) (fun c => ?_) (fun c => ?_)
    · have h := (if_pos c).symm.trans h
      exact wX8_needs_140 X hK103 h _ _ _ hH hS (lv_sub hl [0, 1, 3] rfl)
    · have h := (if_neg c).symm.trans h
      refine lv_iload_n hx hb dX8_needs_122 rfl (lv_at hl 1 rfl) ?_
      refine lv_if_eq (tgt := 136) hx hb dX8_needs_123 (by decide) (fun c => ?_) (fun c => ?_)
      · have h := (if_pos c).symm.trans h
        exact wX8_needs_136 X hK103 h _ _ _ hH hS (lv_sub hl [0, 1, 3] rfl)
      · have h := (if_neg c).symm.trans h
        refine lv_aload_n hx hb dX8_needs_126 rfl (lv_at hl 0 rfl) ?_
        obtain ⟨v3, ev3, h⟩ := zb_some h
        refine z_getr X flX8_19 hH ev3 dX8_needs_127 ?_
        refine lv_iload hx hb dX8_needs_130 (lv_at hl 3 rfl) ?_
        obtain ⟨v4, ev4, h⟩ := zb_some h
        refine z_zald X hH ev4 dX8_needs_132 ?_
        refine lv_if_eq (tgt := 140) hx hb dX8_needs_133 (by decide) (fun c => ?_) (fun c => ?_)
        · have h := (if_pos c).symm.trans h
          exact wX8_needs_140 X hK103 h _ _ _ hH hS (lv_sub hl [0, 1, 3] rfl)
        · have h := (if_neg c).symm.trans h
          exact wX8_needs_136 X hK103 h _ _ _ hH hS (lv_sub hl [0, 1, 3] rfl)
set_option maxRecDepth 100000 in
set_option maxHeartbeats 4000000 in
theorem uX8_needs_103 {z : Nat} {N : Nat} {r : Int32} {T : zS} (X : zX D cy p s m meth c cX8_needs 6 RX8 (some .int))  {S : zS} {x0 : Nat} {x2 : Int32} {x4 : Int32} {x5 : Int32} (h : lX8_needs_103 N S x0 x2 x4 x5 = some (r, T)) : zWt D cy A p l e { frames := 2, cells := 0, slots := 0, locals := 42 } s m args below meth c z 0 0 0 0 (zQ D cy A T z (some (.int r))) S 6 103 [(0, .ref x0), (2, .int x2), (4, .int x4), (5, .int x5)] [] := by
  unfold lX8_needs_103 at h
  exact zloop_ind (P := fun y => zWt D cy A p l e { frames := 2, cells := 0, slots := 0, locals := 42 } s m args below meth c z 0 0 0 0 (zQ D cy A T z (some (.int r))) y.1 6 103 [(0, .ref y.2.1), (2, .int y.2.2.1), (4, .int y.2.2.2.1), (5, .int y.2.2.2.2)] []) (fun K hK y hy => wX8_needs_103 X (fun S x0 x2 x4 x5 hq => hK (S, x0, x2, x4, x5) hq) hy) N (S, x0, x2, x4, x5) h
set_option maxRecDepth 100000 in
set_option maxHeartbeats 4000000 in
theorem wX8_needs_91 {z : Nat} {N : Nat} {r : Int32} {T : zS} (X : zX D cy p s m meth c cX8_needs 6 RX8 (some .int)) {K51 : zS × Nat × Int32 × Int32 → Option (Int32 × zS)} (hK51 : ∀ (S : zS) (x0 : Nat) (x2 : Int32) (x4 : Int32), K51 (S, x0, x2, x4) = some (r, T) → zWt D cy A p l e { frames := 2, cells := 0, slots := 0, locals := 42 } s m args below meth c z 0 0 0 0 (zQ D cy A T z (some (.int r))) S 6 51 [(0, .ref x0), (2, .int x2), (4, .int x4)] []) {S : zS} {x0 : Nat} {x2 : Int32} {x4 : Int32} (h : fX8_needs_91 N K51 S x0 x2 x4 = some (r, T)) : zWt D cy A p l e { frames := 2, cells := 0, slots := 0, locals := 42 } s m args below meth c z 0 0 0 0 (zQ D cy A T z (some (.int r))) S 6 91 [(0, .ref x0), (2, .int x2), (4, .int x4)] [] := by
  obtain ⟨hx, hb, hml, hown, hr, hlocks, hT⟩ := id X
  intro H locs ls hH hS hl
  unfold fX8_needs_91 at h
  refine lv_iinc (v := (x4 + (1 : Int32))) (lv' := [(4, .int (x4 + (1 : Int32))), (0, .ref x0), (2, .int x2)]) hx hb dX8_needs_91 hl (k := 2) rfl rfl (by decide) rfl (fun ls hl => ?_)
  refine lv_goto (tgt := 51) hx hb dX8_needs_94 (by decide) ?_
  exact hK51 _ _ _ _ h _ _ _ hH hS (lv_sub hl [1, 2, 0] rfl)
set_option maxRecDepth 100000 in
set_option maxHeartbeats 4000000 in
theorem wX8_needs_51 {z : Nat} {N : Nat} {r : Int32} {T : zS} (X : zX D cy p s m meth c cX8_needs 6 RX8 (some .int)) {K51 : zS × Nat × Int32 × Int32 → Option (Int32 × zS)} (hK51 : ∀ (S : zS) (x0 : Nat) (x2 : Int32) (x4 : Int32), K51 (S, x0, x2, x4) = some (r, T) → zWt D cy A p l e { frames := 2, cells := 0, slots := 0, locals := 42 } s m args below meth c z 0 0 0 0 (zQ D cy A T z (some (.int r))) S 6 51 [(0, .ref x0), (2, .int x2), (4, .int x4)] []) {S : zS} {x0 : Nat} {x2 : Int32} {x4 : Int32} (h : fX8_needs_51 N K51 S x0 x2 x4 = some (r, T)) : zWt D cy A p l e { frames := 2, cells := 0, slots := 0, locals := 42 } s m args below meth c z 0 0 0 0 (zQ D cy A T z (some (.int r))) S 6 51 [(0, .ref x0), (2, .int x2), (4, .int x4)] [] := by
  obtain ⟨hx, hb, hml, hown, hr, hlocks, hT⟩ := id X
  intro H locs ls hH hS hl
  unfold fX8_needs_51 at h
  refine lv_iload hx hb dX8_needs_51 (lv_at hl 2 rfl) ?_
  refine lv_bipush (v := (30 : Int32)) hx hb dX8_needs_53 (by decide) ?_
  refine lv_icmp_ge (tgt := 97) hx hb dX8_needs_55 (by decide) (fun c => ?_) (fun c => ?_)
  · have h := (if_pos c).symm.trans h
    refine lv_iconst (v := (0 : Int32)) hx hb dX8_needs_97 (by decide) ?_
    refine lv_istore (lv' := [(4, .int (0 : Int32)), (0, .ref x0), (2, .int x2)]) hx hb dX8_needs_98 hl (by decide) rfl (fun ls hl => ?_)
    refine lv_iconst (v := (0 : Int32)) hx hb dX8_needs_100 (by decide) ?_
    refine lv_istore (lv' := [(5, .int (0 : Int32)), (4, .int (0 : Int32)), (0, .ref x0), (2, .int x2)]) hx hb dX8_needs_101 hl (by decide) rfl (fun ls hl => ?_)
    exact uX8_needs_103 X h _ _ _ hH hS (lv_sub hl [2, 3, 1, 0] rfl)
  · have h := (if_neg c).symm.trans h
    refine lv_aload_n hx hb dX8_needs_58 rfl (lv_at hl 0 rfl) ?_
    obtain ⟨v5, ev5, h⟩ := zb_some h
    refine z_getr X flX8_89 hH ev5 dX8_needs_59 ?_
    refine lv_iload hx hb dX8_needs_62 (lv_at hl 2 rfl) ?_
    obtain ⟨v6, ev6, h⟩ := zb_some h
    refine z_zald X hH ev6 dX8_needs_64 ?_
    refine lv_if_eq (tgt := 91) hx hb dX8_needs_65 (by decide) (fun c => ?_) (fun c => ?_)
    · have h := (if_pos c).symm.trans h
      exact wX8_needs_91 X hK51 h _ _ _ hH hS (lv_sub hl [0, 1, 2] rfl)
    · have h := (if_neg c).symm.trans h
      refine lv_aload_n hx hb dX8_needs_68 rfl (lv_at hl 0 rfl) ?_
      obtain ⟨v7, ev7, h⟩ := zb_some h
      refine z_getr X flX8_80 hH ev7 dX8_needs_69 ?_
      refine lv_iload hx hb dX8_needs_72 (lv_at hl 2 rfl) ?_
      obtain ⟨v8, ev8, h⟩ := zb_some h
      refine z_iald X hH ev8 dX8_needs_74 ?_
      refine lv_if_lt (tgt := 91) hx hb dX8_needs_75 (by decide) (fun c => ?_) (fun c => ?_)
      · have h := (if_pos c).symm.trans h
        exact wX8_needs_91 X hK51 h _ _ _ hH hS (lv_sub hl [0, 1, 2] rfl)
      · have h := (if_neg c).symm.trans h
        refine lv_aload_n hx hb dX8_needs_78 rfl (lv_at hl 0 rfl) ?_
        obtain ⟨v9, ev9, h⟩ := zb_some h
        refine z_getr X flX8_92 hH ev9 dX8_needs_79 ?_
        refine lv_aload_n hx hb dX8_needs_82 rfl (lv_at hl 0 rfl) ?_
        obtain ⟨v10, ev10, h⟩ := zb_some h
        refine z_getr X flX8_83 hH ev10 dX8_needs_83 ?_
        refine lv_iload hx hb dX8_needs_86 (lv_at hl 2 rfl) ?_
        obtain ⟨v11, ev11, h⟩ := zb_some h
        refine z_iald X hH ev11 dX8_needs_88 ?_
        refine lv_iconst (v := (1 : Int32)) hx hb dX8_needs_89 (by decide) ?_
        obtain ⟨S12, eS12, h⟩ := zb_some h
        refine z_zast X hH hS eS12 dX8_needs_90 (fun H locs hH hS => ?_)
        exact wX8_needs_91 X hK51 h _ _ _ hH hS (lv_sub hl [0, 1, 2] rfl)
set_option maxRecDepth 100000 in
set_option maxHeartbeats 4000000 in
theorem uX8_needs_51 {z : Nat} {N : Nat} {r : Int32} {T : zS} (X : zX D cy p s m meth c cX8_needs 6 RX8 (some .int))  {S : zS} {x0 : Nat} {x2 : Int32} {x4 : Int32} (h : lX8_needs_51 N S x0 x2 x4 = some (r, T)) : zWt D cy A p l e { frames := 2, cells := 0, slots := 0, locals := 42 } s m args below meth c z 0 0 0 0 (zQ D cy A T z (some (.int r))) S 6 51 [(0, .ref x0), (2, .int x2), (4, .int x4)] [] := by
  unfold lX8_needs_51 at h
  exact zloop_ind (P := fun y => zWt D cy A p l e { frames := 2, cells := 0, slots := 0, locals := 42 } s m args below meth c z 0 0 0 0 (zQ D cy A T z (some (.int r))) y.1 6 51 [(0, .ref y.2.1), (2, .int y.2.2.1), (4, .int y.2.2.2)] []) (fun K hK y hy => wX8_needs_51 X (fun S x0 x2 x4 hq => hK (S, x0, x2, x4) hq) hy) N (S, x0, x2, x4) h
set_option maxRecDepth 100000 in
set_option maxHeartbeats 4000000 in
theorem wX8_needs_27 {z : Nat} {N : Nat} {r : Int32} {T : zS} (X : zX D cy p s m meth c cX8_needs 6 RX8 (some .int)) {K27 : zS × Nat × Int32 × Int32 → Option (Int32 × zS)} (hK27 : ∀ (S : zS) (x0 : Nat) (x2 : Int32) (x4 : Int32), K27 (S, x0, x2, x4) = some (r, T) → zWt D cy A p l e { frames := 2, cells := 0, slots := 0, locals := 42 } s m args below meth c z 0 0 0 0 (zQ D cy A T z (some (.int r))) S 6 27 [(0, .ref x0), (2, .int x2), (4, .int x4)] []) {S : zS} {x0 : Nat} {x2 : Int32} {x4 : Int32} (h : fX8_needs_27 N K27 S x0 x2 x4 = some (r, T)) : zWt D cy A p l e { frames := 2, cells := 0, slots := 0, locals := 42 } s m args below meth c z 0 0 0 0 (zQ D cy A T z (some (.int r))) S 6 27 [(0, .ref x0), (2, .int x2), (4, .int x4)] [] := by
  obtain ⟨hx, hb, hml, hown, hr, hlocks, hT⟩ := id X
  intro H locs ls hH hS hl
  unfold fX8_needs_27 at h
  refine lv_iload hx hb dX8_needs_27 (lv_at hl 2 rfl) ?_
  refine lv_bipush (v := (20 : Int32)) hx hb dX8_needs_29 (by decide) ?_
  refine lv_icmp_ge (tgt := 48) hx hb dX8_needs_31 (by decide) (fun c => ?_) (fun c => ?_)
  · have h := (if_pos c).symm.trans h
    refine lv_iconst (v := (0 : Int32)) hx hb dX8_needs_48 (by decide) ?_
    refine lv_istore (lv' := [(4, .int (0 : Int32)), (0, .ref x0), (2, .int x2)]) hx hb dX8_needs_49 hl (by decide) rfl (fun ls hl => ?_)
    exact uX8_needs_51 X h _ _ _ hH hS (lv_sub hl [1, 2, 0] rfl)
  · have h := (if_neg c).symm.trans h
    refine lv_aload_n hx hb dX8_needs_34 rfl (lv_at hl 0 rfl) ?_
    obtain ⟨v13, ev13, h⟩ := zb_some h
    refine z_getr X flX8_92 hH ev13 dX8_needs_35 ?_
    refine lv_iload hx hb dX8_needs_38 (lv_at hl 2 rfl) ?_
    refine lv_iconst (v := (0 : Int32)) hx hb dX8_needs_40 (by decide) ?_
    obtain ⟨S14, eS14, h⟩ := zb_some h
    refine z_zast X hH hS eS14 dX8_needs_41 (fun H locs hH hS => ?_)
    refine lv_iinc (v := (x4 + (1 : Int32))) (lv' := [(4, .int (x4 + (1 : Int32))), (0, .ref x0), (2, .int x2)]) hx hb dX8_needs_42 hl (k := 2) rfl rfl (by decide) rfl (fun ls hl => ?_)
    refine lv_goto (tgt := 27) hx hb dX8_needs_45 (by decide) ?_
    exact hK27 _ _ _ _ h _ _ _ hH hS (lv_sub hl [1, 2, 0] rfl)
set_option maxRecDepth 100000 in
set_option maxHeartbeats 4000000 in
theorem uX8_needs_27 {z : Nat} {N : Nat} {r : Int32} {T : zS} (X : zX D cy p s m meth c cX8_needs 6 RX8 (some .int))  {S : zS} {x0 : Nat} {x2 : Int32} {x4 : Int32} (h : lX8_needs_27 N S x0 x2 x4 = some (r, T)) : zWt D cy A p l e { frames := 2, cells := 0, slots := 0, locals := 42 } s m args below meth c z 0 0 0 0 (zQ D cy A T z (some (.int r))) S 6 27 [(0, .ref x0), (2, .int x2), (4, .int x4)] [] := by
  unfold lX8_needs_27 at h
  exact zloop_ind (P := fun y => zWt D cy A p l e { frames := 2, cells := 0, slots := 0, locals := 42 } s m args below meth c z 0 0 0 0 (zQ D cy A T z (some (.int r))) y.1 6 27 [(0, .ref y.2.1), (2, .int y.2.2.1), (4, .int y.2.2.2)] []) (fun K hK y hy => wX8_needs_27 X (fun S x0 x2 x4 hq => hK (S, x0, x2, x4) hq) hy) N (S, x0, x2, x4) h
set_option maxRecDepth 100000 in
set_option maxHeartbeats 4000000 in
theorem wX8_needs_16 {z : Nat} {N : Nat} {r : Int32} {T : zS} (X : zX D cy p s m meth c cX8_needs 6 RX8 (some .int))  {S : zS} (h : fX8_needs_16 N S = some (r, T)) : zWt D cy A p l e { frames := 2, cells := 0, slots := 0, locals := 42 } s m args below meth c z 0 0 0 0 (zQ D cy A T z (some (.int r))) S 6 16 [] [] := by
  obtain ⟨hx, hb, hml, hown, hr, hlocks, hT⟩ := id X
  intro H locs ls hH hS hl
  unfold fX8_needs_16 at h
  refine lv_iconst (v := (-1 : Int32)) hx hb dX8_needs_16 (by decide) ?_
  exact z_iret X hH hS h dX8_needs_17
set_option maxRecDepth 100000 in
set_option maxHeartbeats 4000000 in
theorem wX8_needs_0 {z : Nat} {N : Nat} {r : Int32} {T : zS} (X : zX D cy p s m meth c cX8_needs 6 RX8 (some .int))  {S : zS} {x0 : Nat} {x1 : Int32} {x2 : Int32} (h : fX8_needs_0 N S x0 x1 x2 = some (r, T)) : zWt D cy A p l e { frames := 2, cells := 0, slots := 0, locals := 42 } s m args below meth c z 0 0 0 0 (zQ D cy A T z (some (.int r))) S 6 0 [(0, .ref x0), (1, .int x1), (2, .int x2)] [] := by
  obtain ⟨hx, hb, hml, hown, hr, hlocks, hT⟩ := id X
  intro H locs ls hH hS hl
  unfold fX8_needs_0 at h
  refine lv_iload_n hx hb dX8_needs_0 rfl (lv_at hl 1 rfl) ?_
  obtain ⟨v16, S15, eS15, h⟩ := zb2_some h
  refine z_cS (As := [.int x1]) X hl hH hS mlX8_218 (kX8_isMaker eS15) rfl rfl (Nat.le_of_ble_eq_true rfl) ⟨rfl, rfl, Nat.le_of_ble_eq_true rfl, Nat.le_of_ble_eq_true rfl⟩ ⟨Nat.le_refl _, Nat.le_refl _⟩ dX8_needs_1 (fun H locs hH hS => ?_)
  refine lv_if_eq (tgt := 16) hx hb dX8_needs_4 (by decide) (fun c => ?_) (fun c => ?_)
  · have h := (if_pos c).symm.trans h
    exact wX8_needs_16 X h _ _ _ hH hS (lv_sub hl [] rfl)
  · have h := (if_neg c).symm.trans h
    refine lv_iload_n hx hb dX8_needs_7 rfl (lv_at hl 2 rfl) ?_
    refine lv_iconst (v := (0 : Int32)) hx hb dX8_needs_8 (by decide) ?_
    refine lv_iconst (v := (1 : Int32)) hx hb dX8_needs_9 (by decide) ?_
    obtain ⟨v18, S17, eS17, h⟩ := zb2_some h
    refine z_cS (As := [.int x2, .int (0 : Int32), .int (1 : Int32)]) X hl hH hS mlX8_99 (kX8_in eS17) rfl rfl (Nat.le_of_ble_eq_true rfl) ⟨rfl, rfl, Nat.le_of_ble_eq_true rfl, Nat.le_of_ble_eq_true rfl⟩ ⟨Nat.le_refl _, Nat.le_refl _⟩ dX8_needs_10 (fun H locs hH hS => ?_)
    refine lv_if_ne (tgt := 18) hx hb dX8_needs_13 (by decide) (fun c => ?_) (fun c => ?_)
    · have h := (if_neg c).symm.trans h
      refine lv_aload_n hx hb dX8_needs_18 rfl (lv_at hl 0 rfl) ?_
      refine lv_iload_n hx hb dX8_needs_19 rfl (lv_at hl 1 rfl) ?_
      obtain ⟨u19, eu19, h⟩ := zb_some h
      obtain ⟨v21, S20, eS20, h⟩ := zb2_some h
      refine z_cV (As := [.int x1]) X hl hH hS mlX8_224 eu19 (kX8_walk eS20) rfl rfl (Nat.le_of_ble_eq_true rfl) ⟨rfl, rfl, Nat.le_of_ble_eq_true rfl, Nat.le_of_ble_eq_true rfl⟩ ⟨Nat.le_refl _, Nat.le_refl _⟩ dX8_needs_20 (fun H locs hH hS => ?_)
      refine lv_istore_n (lv' := [(3, .int v21), (0, .ref x0), (1, .int x1), (2, .int x2)]) hx hb dX8_needs_23 rfl hl (by decide) rfl (fun ls hl => ?_)
      refine lv_iconst (v := (0 : Int32)) hx hb dX8_needs_24 (by decide) ?_
      refine lv_istore (lv' := [(4, .int (0 : Int32)), (3, .int v21), (0, .ref x0), (1, .int x1), (2, .int x2)]) hx hb dX8_needs_25 hl (by decide) rfl (fun ls hl => ?_)
      exact uX8_needs_27 X h _ _ _ hH hS (lv_sub hl [2, 4, 0] rfl)
    · have h := (if_pos c).symm.trans h
      exact wX8_needs_16 X h _ _ _ hH hS (lv_sub hl [] rfl)
set_option maxRecDepth 100000 in
theorem kX8_needs {N : Nat} {r : Int32} {T : zS} {S : zS} {z : Nat} {x0 : Nat} {x1 : Int32} {x2 : Int32} (h : fX8_needs N S x0 x1 x2 = some (r, T)) : Met l yX8_needs [.code yX8_needs cX8_needs 6 (some .int)] { frames := 2, cells := 0, slots := 0, locals := 42 } (zP D cy A S z [.ref x0, .int x1, .int x2]) (zQ D cy A T z (some (.int r))) 0 0 A := by
  refine z_met (lv := [(0, .ref x0), (1, .int x1), (2, .int x2)]) (by decide) (Nat.le_of_ble_eq_true rfl) rfl ?_
  intro p e s m below meth c X H locs ls hH hS hl
  exact wX8_needs_0 X h _ _ _ hH hS (lv_sub hl [0, 1, 2] rfl)
set_option maxRecDepth 100000 in
set_option maxHeartbeats 4000000 in
theorem wX8_forge_48 {z : Nat} {N : Nat} {r : Int32} {T : zS} (X : zX D cy p s m meth c cX8_forge 4 RX8 (some .int))  {S : zS} {x3 : Int32} {y0 : Nat} {y1 : Int32} {y2 : Int32} (h : fX8_forge_48 N S x3 y0 y1 y2 = some (r, T)) : zWt D cy A p l e { frames := 2, cells := 0, slots := 0, locals := 42 } s m args below meth c z 0 0 0 0 (zQ D cy A T z (some (.int r))) S 4 48 [(3, .int x3)] [.int y2, .int y1, .ref y0] := by
  obtain ⟨hx, hb, hml, hown, hr, hlocks, hT⟩ := id X
  intro H locs ls hH hS hl
  unfold fX8_forge_48 at h
  obtain ⟨S1, eS1, h⟩ := zb_some h
  refine z_zast X hH hS eS1 dX8_forge_48 (fun H locs hH hS => ?_)
  refine lv_iload_n hx hb dX8_forge_49 rfl (lv_at hl 0 rfl) ?_
  exact z_iret X hH hS h dX8_forge_50
set_option maxRecDepth 100000 in
set_option maxHeartbeats 4000000 in
theorem wX8_forge_32 {z : Nat} {N : Nat} {r : Int32} {T : zS} (X : zX D cy p s m meth c cX8_forge 4 RX8 (some .int))  {S : zS} {x0 : Nat} {x1 : Int32} {x2 : Int32} {y0 : Int32} (h : fX8_forge_32 N S x0 x1 x2 y0 = some (r, T)) : zWt D cy A p l e { frames := 2, cells := 0, slots := 0, locals := 42 } s m args below meth c z 0 0 0 0 (zQ D cy A T z (some (.int r))) S 4 32 [(0, .ref x0), (1, .int x1), (2, .int x2)] [.int y0] := by
  obtain ⟨hx, hb, hml, hown, hr, hlocks, hT⟩ := id X
  intro H locs ls hH hS hl
  unfold fX8_forge_32 at h
  refine lv_istore_n (lv' := [(3, .int y0), (0, .ref x0), (1, .int x1), (2, .int x2)]) hx hb dX8_forge_32 rfl hl (by decide) rfl (fun ls hl => ?_)
  refine lv_aload_n hx hb dX8_forge_33 rfl (lv_at hl 1 rfl) ?_
  obtain ⟨v2, ev2, h⟩ := zb_some h
  refine z_getr X flX8_86 hH ev2 dX8_forge_34 ?_
  refine lv_iload_n hx hb dX8_forge_37 rfl (lv_at hl 2 rfl) ?_
  refine lv_iload_n hx hb dX8_forge_38 rfl (lv_at hl 3 rfl) ?_
  refine lv_iconst (v := (1 : Int32)) hx hb dX8_forge_39 (by decide) ?_
  refine lv_icmp_ne (tgt := 47) hx hb dX8_forge_40 (by decide) (fun c => ?_) (fun c => ?_)
  · have h := (if_neg c).symm.trans h
    refine lv_iconst (v := (0 : Int32)) hx hb dX8_forge_47 (by decide) ?_
    exact wX8_forge_48 X h _ _ _ hH hS (lv_sub hl [0] rfl)
  · have h := (if_pos c).symm.trans h
    refine lv_iconst (v := (1 : Int32)) hx hb dX8_forge_43 (by decide) ?_
    refine lv_goto (tgt := 48) hx hb dX8_forge_44 (by decide) ?_
    exact wX8_forge_48 X h _ _ _ hH hS (lv_sub hl [0] rfl)
set_option maxRecDepth 100000 in
set_option maxHeartbeats 4000000 in
theorem wX8_forge_16 {z : Nat} {N : Nat} {r : Int32} {T : zS} (X : zX D cy p s m meth c cX8_forge 4 RX8 (some .int))  {S : zS} (h : fX8_forge_16 N S = some (r, T)) : zWt D cy A p l e { frames := 2, cells := 0, slots := 0, locals := 42 } s m args below meth c z 0 0 0 0 (zQ D cy A T z (some (.int r))) S 4 16 [] [] := by
  obtain ⟨hx, hb, hml, hown, hr, hlocks, hT⟩ := id X
  intro H locs ls hH hS hl
  unfold fX8_forge_16 at h
  refine lv_iconst (v := (-1 : Int32)) hx hb dX8_forge_16 (by decide) ?_
  exact z_iret X hH hS h dX8_forge_17
set_option maxRecDepth 100000 in
set_option maxHeartbeats 4000000 in
theorem wX8_forge_0 {z : Nat} {N : Nat} {r : Int32} {T : zS} (X : zX D cy p s m meth c cX8_forge 4 RX8 (some .int))  {S : zS} {x0 : Nat} {x1 : Int32} {x2 : Int32} (h : fX8_forge_0 N S x0 x1 x2 = some (r, T)) : zWt D cy A p l e { frames := 2, cells := 0, slots := 0, locals := 42 } s m args below meth c z 0 0 0 0 (zQ D cy A T z (some (.int r))) S 4 0 [(0, .ref x0), (1, .int x1), (2, .int x2)] [] := by
  obtain ⟨hx, hb, hml, hown, hr, hlocks, hT⟩ := id X
  intro H locs ls hH hS hl
  unfold fX8_forge_0 at h
  refine lv_iload_n hx hb dX8_forge_0 rfl (lv_at hl 1 rfl) ?_
  obtain ⟨v4, S3, eS3, h⟩ := zb2_some h
  refine z_cS (As := [.int x1]) X hl hH hS mlX8_218 (kX8_isMaker eS3) rfl rfl (Nat.le_of_ble_eq_true rfl) ⟨rfl, rfl, Nat.le_of_ble_eq_true rfl, Nat.le_of_ble_eq_true rfl⟩ ⟨Nat.le_refl _, Nat.le_refl _⟩ dX8_forge_1 (fun H locs hH hS => ?_)
  refine lv_if_eq (tgt := 16) hx hb dX8_forge_4 (by decide) (fun c => ?_) (fun c => ?_)
  · have h := (if_pos c).symm.trans h
    exact wX8_forge_16 X h _ _ _ hH hS (lv_sub hl [] rfl)
  · have h := (if_neg c).symm.trans h
    refine lv_iload_n hx hb dX8_forge_7 rfl (lv_at hl 2 rfl) ?_
    refine lv_iconst (v := (0 : Int32)) hx hb dX8_forge_8 (by decide) ?_
    refine lv_iconst (v := (1 : Int32)) hx hb dX8_forge_9 (by decide) ?_
    obtain ⟨v6, S5, eS5, h⟩ := zb2_some h
    refine z_cS (As := [.int x2, .int (0 : Int32), .int (1 : Int32)]) X hl hH hS mlX8_99 (kX8_in eS5) rfl rfl (Nat.le_of_ble_eq_true rfl) ⟨rfl, rfl, Nat.le_of_ble_eq_true rfl, Nat.le_of_ble_eq_true rfl⟩ ⟨Nat.le_refl _, Nat.le_refl _⟩ dX8_forge_10 (fun H locs hH hS => ?_)
    refine lv_if_ne (tgt := 18) hx hb dX8_forge_13 (by decide) (fun c => ?_) (fun c => ?_)
    · have h := (if_neg c).symm.trans h
      refine lv_aload_n hx hb dX8_forge_18 rfl (lv_at hl 0 rfl) ?_
      obtain ⟨v7, ev7, h⟩ := zb_some h
      refine z_getr X flX8_86 hH ev7 dX8_forge_19 ?_
      refine lv_iload_n hx hb dX8_forge_22 rfl (lv_at hl 1 rfl) ?_
      obtain ⟨v8, ev8, h⟩ := zb_some h
      refine z_zald X hH ev8 dX8_forge_23 ?_
      refine lv_if_eq (tgt := 31) hx hb dX8_forge_24 (by decide) (fun c => ?_) (fun c => ?_)
      · have h := (if_pos c).symm.trans h
        refine lv_iconst (v := (0 : Int32)) hx hb dX8_forge_31 (by decide) ?_
        exact wX8_forge_32 X h _ _ _ hH hS (lv_sub hl [0, 1, 2] rfl)
      · have h := (if_neg c).symm.trans h
        refine lv_iconst (v := (1 : Int32)) hx hb dX8_forge_27 (by decide) ?_
        refine lv_goto (tgt := 32) hx hb dX8_forge_28 (by decide) ?_
        exact wX8_forge_32 X h _ _ _ hH hS (lv_sub hl [0, 1, 2] rfl)
    · have h := (if_pos c).symm.trans h
      exact wX8_forge_16 X h _ _ _ hH hS (lv_sub hl [] rfl)
set_option maxRecDepth 100000 in
theorem kX8_forge {N : Nat} {r : Int32} {T : zS} {S : zS} {z : Nat} {x0 : Nat} {x1 : Int32} {x2 : Int32} (h : fX8_forge N S x0 x1 x2 = some (r, T)) : Met l yX8_forge [.code yX8_forge cX8_forge 4 (some .int)] { frames := 2, cells := 0, slots := 0, locals := 42 } (zP D cy A S z [.ref x0, .int x1, .int x2]) (zQ D cy A T z (some (.int r))) 0 0 A := by
  refine z_met (lv := [(0, .ref x0), (1, .int x1), (2, .int x2)]) (by decide) (Nat.le_of_ble_eq_true rfl) rfl ?_
  intro p e s m below meth c X H locs ls hH hS hl
  exact wX8_forge_0 X h _ _ _ hH hS (lv_sub hl [0, 1, 2] rfl)
set_option maxRecDepth 100000 in
set_option maxHeartbeats 4000000 in
theorem wX8_trust_43 {z : Nat} {N : Nat} {r : Int32} {T : zS} (X : zX D cy p s m meth c cX8_trust 4 RX8 (some .int)) {K17 : zS × Nat × Int32 → Option (Int32 × zS)} (hK17 : ∀ (S : zS) (x0 : Nat) (x3 : Int32), K17 (S, x0, x3) = some (r, T) → zWt D cy A p l e { frames := 2, cells := 0, slots := 0, locals := 42 } s m args below meth c z 0 0 0 0 (zQ D cy A T z (some (.int r))) S 4 17 [(0, .ref x0), (3, .int x3)] []) {S : zS} {x0 : Nat} {x3 : Int32} (h : fX8_trust_43 N K17 S x0 x3 = some (r, T)) : zWt D cy A p l e { frames := 2, cells := 0, slots := 0, locals := 42 } s m args below meth c z 0 0 0 0 (zQ D cy A T z (some (.int r))) S 4 43 [(0, .ref x0), (3, .int x3)] [] := by
  obtain ⟨hx, hb, hml, hown, hr, hlocks, hT⟩ := id X
  intro H locs ls hH hS hl
  unfold fX8_trust_43 at h
  refine lv_iinc (v := (x3 + (1 : Int32))) (lv' := [(3, .int (x3 + (1 : Int32))), (0, .ref x0)]) hx hb dX8_trust_43 hl (k := 1) rfl rfl (by decide) rfl (fun ls hl => ?_)
  refine lv_goto (tgt := 17) hx hb dX8_trust_46 (by decide) ?_
  exact hK17 _ _ _ h _ _ _ hH hS (lv_sub hl [1, 0] rfl)
set_option maxRecDepth 100000 in
set_option maxHeartbeats 4000000 in
theorem wX8_trust_17 {z : Nat} {N : Nat} {r : Int32} {T : zS} (X : zX D cy p s m meth c cX8_trust 4 RX8 (some .int)) {K17 : zS × Nat × Int32 → Option (Int32 × zS)} (hK17 : ∀ (S : zS) (x0 : Nat) (x3 : Int32), K17 (S, x0, x3) = some (r, T) → zWt D cy A p l e { frames := 2, cells := 0, slots := 0, locals := 42 } s m args below meth c z 0 0 0 0 (zQ D cy A T z (some (.int r))) S 4 17 [(0, .ref x0), (3, .int x3)] []) {S : zS} {x0 : Nat} {x3 : Int32} (h : fX8_trust_17 N K17 S x0 x3 = some (r, T)) : zWt D cy A p l e { frames := 2, cells := 0, slots := 0, locals := 42 } s m args below meth c z 0 0 0 0 (zQ D cy A T z (some (.int r))) S 4 17 [(0, .ref x0), (3, .int x3)] [] := by
  obtain ⟨hx, hb, hml, hown, hr, hlocks, hT⟩ := id X
  intro H locs ls hH hS hl
  unfold fX8_trust_17 at h
  refine lv_iload_n hx hb dX8_trust_17 rfl (lv_at hl 1 rfl) ?_
  refine lv_bipush (v := (30 : Int32)) hx hb dX8_trust_18 (by decide) ?_
  refine lv_icmp_ge (tgt := 49) hx hb dX8_trust_20 (by decide) (fun c => ?_) (fun c => ?_)
  · have h := (if_pos c).symm.trans h
    refine lv_iconst (v := (1 : Int32)) hx hb dX8_trust_49 (by decide) ?_
    exact z_iret X hH hS h dX8_trust_50
  · have h := (if_neg c).symm.trans h
    refine lv_aload_n hx hb dX8_trust_23 rfl (lv_at hl 0 rfl) ?_
    obtain ⟨v1, ev1, h⟩ := zb_some h
    refine z_getr X flX8_89 hH ev1 dX8_trust_24 ?_
    refine lv_iload_n hx hb dX8_trust_27 rfl (lv_at hl 1 rfl) ?_
    obtain ⟨v2, ev2, h⟩ := zb_some h
    refine z_zald X hH ev2 dX8_trust_28 ?_
    refine lv_if_eq (tgt := 43) hx hb dX8_trust_29 (by decide) (fun c => ?_) (fun c => ?_)
    · have h := (if_pos c).symm.trans h
      exact wX8_trust_43 X hK17 h _ _ _ hH hS (lv_sub hl [0, 1] rfl)
    · have h := (if_neg c).symm.trans h
      refine lv_aload_n hx hb dX8_trust_32 rfl (lv_at hl 0 rfl) ?_
      obtain ⟨v3, ev3, h⟩ := zb_some h
      refine z_getr X flX8_86 hH ev3 dX8_trust_33 ?_
      refine lv_iload_n hx hb dX8_trust_36 rfl (lv_at hl 1 rfl) ?_
      obtain ⟨v4, ev4, h⟩ := zb_some h
      refine z_zald X hH ev4 dX8_trust_37 ?_
      refine lv_if_eq (tgt := 43) hx hb dX8_trust_38 (by decide) (fun c => ?_) (fun c => ?_)
      · have h := (if_pos c).symm.trans h
        exact wX8_trust_43 X hK17 h _ _ _ hH hS (lv_sub hl [0, 1] rfl)
      · have h := (if_neg c).symm.trans h
        refine lv_iconst (v := (0 : Int32)) hx hb dX8_trust_41 (by decide) ?_
        exact z_iret X hH hS h dX8_trust_42
set_option maxRecDepth 100000 in
set_option maxHeartbeats 4000000 in
theorem uX8_trust_17 {z : Nat} {N : Nat} {r : Int32} {T : zS} (X : zX D cy p s m meth c cX8_trust 4 RX8 (some .int))  {S : zS} {x0 : Nat} {x3 : Int32} (h : lX8_trust_17 N S x0 x3 = some (r, T)) : zWt D cy A p l e { frames := 2, cells := 0, slots := 0, locals := 42 } s m args below meth c z 0 0 0 0 (zQ D cy A T z (some (.int r))) S 4 17 [(0, .ref x0), (3, .int x3)] [] := by
  unfold lX8_trust_17 at h
  exact zloop_ind (P := fun y => zWt D cy A p l e { frames := 2, cells := 0, slots := 0, locals := 42 } s m args below meth c z 0 0 0 0 (zQ D cy A T z (some (.int r))) y.1 4 17 [(0, .ref y.2.1), (3, .int y.2.2)] []) (fun K hK y hy => wX8_trust_17 X (fun S x0 x3 hq => hK (S, x0, x3) hq) hy) N (S, x0, x3) h
set_option maxRecDepth 100000 in
set_option maxHeartbeats 4000000 in
theorem wX8_trust_0 {z : Nat} {N : Nat} {r : Int32} {T : zS} (X : zX D cy p s m meth c cX8_trust 4 RX8 (some .int))  {S : zS} {x0 : Nat} {x1 : Int32} (h : fX8_trust_0 N S x0 x1 = some (r, T)) : zWt D cy A p l e { frames := 2, cells := 0, slots := 0, locals := 42 } s m args below meth c z 0 0 0 0 (zQ D cy A T z (some (.int r))) S 4 0 [(0, .ref x0), (1, .int x1)] [] := by
  obtain ⟨hx, hb, hml, hown, hr, hlocks, hT⟩ := id X
  intro H locs ls hH hS hl
  unfold fX8_trust_0 at h
  refine lv_iload_n hx hb dX8_trust_0 rfl (lv_at hl 1 rfl) ?_
  obtain ⟨v6, S5, eS5, h⟩ := zb2_some h
  refine z_cS (As := [.int x1]) X hl hH hS mlX8_218 (kX8_isMaker eS5) rfl rfl (Nat.le_of_ble_eq_true rfl) ⟨rfl, rfl, Nat.le_of_ble_eq_true rfl, Nat.le_of_ble_eq_true rfl⟩ ⟨Nat.le_refl _, Nat.le_refl _⟩ dX8_trust_1 (fun H locs hH hS => ?_)
  refine lv_if_ne (tgt := 9) hx hb dX8_trust_4 (by decide) (fun c => ?_) (fun c => ?_)
  · have h := (if_neg c).symm.trans h
    refine lv_aload_n hx hb dX8_trust_9 rfl (lv_at hl 0 rfl) ?_
    refine lv_iload_n hx hb dX8_trust_10 rfl (lv_at hl 1 rfl) ?_
    obtain ⟨u7, eu7, h⟩ := zb_some h
    obtain ⟨v9, S8, eS8, h⟩ := zb2_some h
    refine z_cV (As := [.int x1]) X hl hH hS mlX8_224 eu7 (kX8_walk eS8) rfl rfl (Nat.le_of_ble_eq_true rfl) ⟨rfl, rfl, Nat.le_of_ble_eq_true rfl, Nat.le_of_ble_eq_true rfl⟩ ⟨Nat.le_refl _, Nat.le_refl _⟩ dX8_trust_11 (fun H locs hH hS => ?_)
    refine lv_istore_n (lv' := [(2, .int v9), (0, .ref x0), (1, .int x1)]) hx hb dX8_trust_14 rfl hl (by decide) rfl (fun ls hl => ?_)
    refine lv_iconst (v := (0 : Int32)) hx hb dX8_trust_15 (by decide) ?_
    refine lv_istore_n (lv' := [(3, .int (0 : Int32)), (2, .int v9), (0, .ref x0), (1, .int x1)]) hx hb dX8_trust_16 rfl hl (by decide) rfl (fun ls hl => ?_)
    exact uX8_trust_17 X h _ _ _ hH hS (lv_sub hl [2, 0] rfl)
  · have h := (if_pos c).symm.trans h
    refine lv_iconst (v := (-1 : Int32)) hx hb dX8_trust_7 (by decide) ?_
    exact z_iret X hH hS h dX8_trust_8
set_option maxRecDepth 100000 in
theorem kX8_trust {N : Nat} {r : Int32} {T : zS} {S : zS} {z : Nat} {x0 : Nat} {x1 : Int32} (h : fX8_trust N S x0 x1 = some (r, T)) : Met l yX8_trust [.code yX8_trust cX8_trust 4 (some .int)] { frames := 2, cells := 0, slots := 0, locals := 42 } (zP D cy A S z [.ref x0, .int x1]) (zQ D cy A T z (some (.int r))) 0 0 A := by
  refine z_met (lv := [(0, .ref x0), (1, .int x1)]) (by decide) (Nat.le_of_ble_eq_true rfl) rfl ?_
  intro p e s m below meth c X H locs ls hH hS hl
  exact wX8_trust_0 X h _ _ _ hH hS (lv_sub hl [0, 1] rfl)
end
