section
variable {D : va_G} {cy : Nat → ClassId} {A : Nat → Prop} {p : Program} {l : Launch} {e : Env} {s : State} {m : MethodId} {args : Array Value} {below : List Frame} {meth : Method} {c : Code}
set_option maxRecDepth 100000 in
set_option maxHeartbeats 4000000 in
theorem wX8_findFar_157 {z : Nat} {N : Nat} {T : zS} (X : zX D cy p s m meth c cX8_findFar 9 RX8 none) {K3 : zS × Nat × Int32 × Int32 × Int32 × Int32 → Option (zS)} (hK3 : ∀ (S : zS) (x0 : Nat) (x1 : Int32) (x2 : Int32) (x3 : Int32) (x4 : Int32), K3 (S, x0, x1, x2, x3, x4) = some T → zWt D cy A p l e { frames := 1, cells := 0, slots := 0, locals := 22 } s m args below meth c z 0 0 0 0 (zQ D cy A T z none) S 9 3 [(0, .ref x0), (1, .int x1), (2, .int x2), (3, .int x3), (4, .int x4)] []) {K11 : zS × Nat × Int32 × Int32 × Int32 × Int32 × Int32 → Option (zS)} (hK11 : ∀ (S : zS) (x0 : Nat) (x1 : Int32) (x2 : Int32) (x3 : Int32) (x4 : Int32) (x5 : Int32), K11 (S, x0, x1, x2, x3, x4, x5) = some T → zWt D cy A p l e { frames := 1, cells := 0, slots := 0, locals := 22 } s m args below meth c z 0 0 0 0 (zQ D cy A T z none) S 9 11 [(0, .ref x0), (1, .int x1), (2, .int x2), (3, .int x3), (4, .int x4), (5, .int x5)] []) {S : zS} {x0 : Nat} {x1 : Int32} {x2 : Int32} {x3 : Int32} {x4 : Int32} {x5 : Int32} {x6 : Int32} (h : fX8_findFar_157 N K3 K11 S x0 x1 x2 x3 x4 x5 x6 = some T) : zWt D cy A p l e { frames := 1, cells := 0, slots := 0, locals := 22 } s m args below meth c z 0 0 0 0 (zQ D cy A T z none) S 9 157 [(0, .ref x0), (1, .int x1), (2, .int x2), (3, .int x3), (4, .int x4), (5, .int x5), (6, .int x6)] [] := by
  obtain ⟨hx, hb, hml, hown, hr, hlocks, hT⟩ := id X
  intro H locs ls hH hS hl
  unfold fX8_findFar_157 at h
  refine lv_aload_n hx hb dX8_findFar_157 rfl (lv_at hl 0 rfl) ?_
  obtain ⟨v1, ev1, h⟩ := zb_some h
  refine z_getr X flX8_68 hH ev1 dX8_findFar_158 ?_
  refine lv_sipush (v := (201 : Int32)) hx hb dX8_findFar_161 (by decide) ?_
  refine lv_iload hx hb dX8_findFar_164 (lv_at hl 4 rfl) ?_
  refine lv_imul hx hb dX8_findFar_166 ?_
  refine lv_iload hx hb dX8_findFar_167 (lv_at hl 5 rfl) ?_
  refine lv_iadd hx hb dX8_findFar_169 ?_
  refine lv_iload hx hb dX8_findFar_170 (lv_at hl 6 rfl) ?_
  obtain ⟨S2, eS2, h⟩ := zb_some h
  refine z_iast X hH hS eS2 dX8_findFar_172 (fun H locs hH hS => ?_)
  refine lv_iinc (v := (x5 + (-1 : Int32))) (lv' := [(5, .int (x5 + (-1 : Int32))), (0, .ref x0), (1, .int x1), (2, .int x2), (3, .int x3), (4, .int x4), (6, .int x6)]) hx hb dX8_findFar_173 hl (k := 5) rfl (z_ii (by decide) _) (by decide) rfl (fun ls hl => ?_)
  refine lv_goto (tgt := 11) hx hb dX8_findFar_176 (by decide) ?_
  exact hK11 _ _ _ _ _ _ _ h _ _ _ hH hS (lv_sub hl [1, 2, 3, 4, 5, 0] rfl)
set_option maxRecDepth 100000 in
set_option maxHeartbeats 4000000 in
theorem wX8_findFar_155 {z : Nat} {N : Nat} {T : zS} (X : zX D cy p s m meth c cX8_findFar 9 RX8 none) {K3 : zS × Nat × Int32 × Int32 × Int32 × Int32 → Option (zS)} (hK3 : ∀ (S : zS) (x0 : Nat) (x1 : Int32) (x2 : Int32) (x3 : Int32) (x4 : Int32), K3 (S, x0, x1, x2, x3, x4) = some T → zWt D cy A p l e { frames := 1, cells := 0, slots := 0, locals := 22 } s m args below meth c z 0 0 0 0 (zQ D cy A T z none) S 9 3 [(0, .ref x0), (1, .int x1), (2, .int x2), (3, .int x3), (4, .int x4)] []) {K11 : zS × Nat × Int32 × Int32 × Int32 × Int32 × Int32 → Option (zS)} (hK11 : ∀ (S : zS) (x0 : Nat) (x1 : Int32) (x2 : Int32) (x3 : Int32) (x4 : Int32) (x5 : Int32), K11 (S, x0, x1, x2, x3, x4, x5) = some T → zWt D cy A p l e { frames := 1, cells := 0, slots := 0, locals := 22 } s m args below meth c z 0 0 0 0 (zQ D cy A T z none) S 9 11 [(0, .ref x0), (1, .int x1), (2, .int x2), (3, .int x3), (4, .int x4), (5, .int x5)] []) {S : zS} {x0 : Nat} {x1 : Int32} {x2 : Int32} {x3 : Int32} {x4 : Int32} {x5 : Int32} {y0 : Int32} (h : fX8_findFar_155 N K3 K11 S x0 x1 x2 x3 x4 x5 y0 = some T) : zWt D cy A p l e { frames := 1, cells := 0, slots := 0, locals := 22 } s m args below meth c z 0 0 0 0 (zQ D cy A T z none) S 9 155 [(0, .ref x0), (1, .int x1), (2, .int x2), (3, .int x3), (4, .int x4), (5, .int x5)] [.int y0] := by
  obtain ⟨hx, hb, hml, hown, hr, hlocks, hT⟩ := id X
  intro H locs ls hH hS hl
  unfold fX8_findFar_155 at h
  refine lv_istore (lv' := [(6, .int y0), (0, .ref x0), (1, .int x1), (2, .int x2), (3, .int x3), (4, .int x4), (5, .int x5)]) hx hb dX8_findFar_155 hl (by decide) rfl (fun ls hl => ?_)
  exact wX8_findFar_157 X hK3 hK11 h _ _ _ hH hS (lv_sub hl [1, 2, 3, 4, 5, 6, 0] rfl)
set_option maxRecDepth 100000 in
set_option maxHeartbeats 4000000 in
theorem wX8_findFar_139 {z : Nat} {N : Nat} {T : zS} (X : zX D cy p s m meth c cX8_findFar 9 RX8 none) {K3 : zS × Nat × Int32 × Int32 × Int32 × Int32 → Option (zS)} (hK3 : ∀ (S : zS) (x0 : Nat) (x1 : Int32) (x2 : Int32) (x3 : Int32) (x4 : Int32), K3 (S, x0, x1, x2, x3, x4) = some T → zWt D cy A p l e { frames := 1, cells := 0, slots := 0, locals := 22 } s m args below meth c z 0 0 0 0 (zQ D cy A T z none) S 9 3 [(0, .ref x0), (1, .int x1), (2, .int x2), (3, .int x3), (4, .int x4)] []) {K11 : zS × Nat × Int32 × Int32 × Int32 × Int32 × Int32 → Option (zS)} (hK11 : ∀ (S : zS) (x0 : Nat) (x1 : Int32) (x2 : Int32) (x3 : Int32) (x4 : Int32) (x5 : Int32), K11 (S, x0, x1, x2, x3, x4, x5) = some T → zWt D cy A p l e { frames := 1, cells := 0, slots := 0, locals := 22 } s m args below meth c z 0 0 0 0 (zQ D cy A T z none) S 9 11 [(0, .ref x0), (1, .int x1), (2, .int x2), (3, .int x3), (4, .int x4), (5, .int x5)] []) {S : zS} {x0 : Nat} {x1 : Int32} {x2 : Int32} {x3 : Int32} {x4 : Int32} {x5 : Int32} {x8 : Int32} {y0 : Int32} (h : fX8_findFar_139 N K3 K11 S x0 x1 x2 x3 x4 x5 x8 y0 = some T) : zWt D cy A p l e { frames := 1, cells := 0, slots := 0, locals := 22 } s m args below meth c z 0 0 0 0 (zQ D cy A T z none) S 9 139 [(0, .ref x0), (1, .int x1), (2, .int x2), (3, .int x3), (4, .int x4), (5, .int x5), (8, .int x8)] [.int y0] := by
  obtain ⟨hx, hb, hml, hown, hr, hlocks, hT⟩ := id X
  intro H locs ls hH hS hl
  unfold fX8_findFar_139 at h
  refine lv_istore (lv' := [(6, .int y0), (0, .ref x0), (1, .int x1), (2, .int x2), (3, .int x3), (4, .int x4), (5, .int x5), (8, .int x8)]) hx hb dX8_findFar_139 hl (by decide) rfl (fun ls hl => ?_)
  refine lv_iload hx hb dX8_findFar_141 (lv_at hl 7 rfl) ?_
  refine lv_iload hx hb dX8_findFar_143 (lv_at hl 0 rfl) ?_
  refine lv_icmp_ge (tgt := 153) hx hb dX8_findFar_145 (by decide) (fun c => ?_) (fun c => ?_)
  · have h := (if_pos c).symm.trans h
    refine lv_iload hx hb dX8_findFar_153 (lv_at hl 0 rfl) ?_
    exact wX8_findFar_155 X hK3 hK11 h _ _ _ hH hS (lv_sub hl [1, 2, 3, 4, 5, 6] rfl)
  · have h := (if_neg c).symm.trans h
    refine lv_iload hx hb dX8_findFar_148 (lv_at hl 7 rfl) ?_
    refine lv_goto (tgt := 155) hx hb dX8_findFar_150 (by decide) ?_
    exact wX8_findFar_155 X hK3 hK11 h _ _ _ hH hS (lv_sub hl [1, 2, 3, 4, 5, 6] rfl)
set_option maxRecDepth 100000 in
set_option maxHeartbeats 4000000 in
theorem wX8_findFar_82 {z : Nat} {N : Nat} {T : zS} (X : zX D cy p s m meth c cX8_findFar 9 RX8 none) {K3 : zS × Nat × Int32 × Int32 × Int32 × Int32 → Option (zS)} (hK3 : ∀ (S : zS) (x0 : Nat) (x1 : Int32) (x2 : Int32) (x3 : Int32) (x4 : Int32), K3 (S, x0, x1, x2, x3, x4) = some T → zWt D cy A p l e { frames := 1, cells := 0, slots := 0, locals := 22 } s m args below meth c z 0 0 0 0 (zQ D cy A T z none) S 9 3 [(0, .ref x0), (1, .int x1), (2, .int x2), (3, .int x3), (4, .int x4)] []) {K11 : zS × Nat × Int32 × Int32 × Int32 × Int32 × Int32 → Option (zS)} (hK11 : ∀ (S : zS) (x0 : Nat) (x1 : Int32) (x2 : Int32) (x3 : Int32) (x4 : Int32) (x5 : Int32), K11 (S, x0, x1, x2, x3, x4, x5) = some T → zWt D cy A p l e { frames := 1, cells := 0, slots := 0, locals := 22 } s m args below meth c z 0 0 0 0 (zQ D cy A T z none) S 9 11 [(0, .ref x0), (1, .int x1), (2, .int x2), (3, .int x3), (4, .int x4), (5, .int x5)] []) {S : zS} {x0 : Nat} {x1 : Int32} {x2 : Int32} {x3 : Int32} {x4 : Int32} {x5 : Int32} {y0 : Int32} {y1 : Int32} (h : fX8_findFar_82 N K3 K11 S x0 x1 x2 x3 x4 x5 y0 y1 = some T) : zWt D cy A p l e { frames := 1, cells := 0, slots := 0, locals := 22 } s m args below meth c z 0 0 0 0 (zQ D cy A T z none) S 9 82 [(0, .ref x0), (1, .int x1), (2, .int x2), (3, .int x3), (4, .int x4), (5, .int x5)] [.int y1, .int y0] := by
  obtain ⟨hx, hb, hml, hown, hr, hlocks, hT⟩ := id X
  intro H locs ls hH hS hl
  unfold fX8_findFar_82 at h
  refine lv_iadd hx hb dX8_findFar_82 ?_
  refine lv_istore (lv' := [(6, .int (y0 + y1)), (0, .ref x0), (1, .int x1), (2, .int x2), (3, .int x3), (4, .int x4), (5, .int x5)]) hx hb dX8_findFar_83 hl (by decide) rfl (fun ls hl => ?_)
  refine lv_aload_n hx hb dX8_findFar_85 rfl (lv_at hl 1 rfl) ?_
  obtain ⟨v3, ev3, h⟩ := zb_some h
  refine z_getr X flX8_68 hH ev3 dX8_findFar_86 ?_
  refine lv_sipush (v := (201 : Int32)) hx hb dX8_findFar_89 (by decide) ?_
  refine lv_iload hx hb dX8_findFar_92 (lv_at hl 5 rfl) ?_
  refine lv_iconst (v := (1 : Int32)) hx hb dX8_findFar_94 (by decide) ?_
  refine lv_iadd hx hb dX8_findFar_95 ?_
  refine lv_imul hx hb dX8_findFar_96 ?_
  refine lv_iload hx hb dX8_findFar_97 (lv_at hl 6 rfl) ?_
  refine lv_iadd hx hb dX8_findFar_99 ?_
  obtain ⟨v4, ev4, h⟩ := zb_some h
  refine z_iald X hH ev4 dX8_findFar_100 ?_
  refine lv_iconst (v := (1 : Int32)) hx hb dX8_findFar_101 (by decide) ?_
  refine lv_iadd hx hb dX8_findFar_102 ?_
  refine lv_istore (lv' := [(7, .int (v4 + (1 : Int32))), (6, .int (y0 + y1)), (0, .ref x0), (1, .int x1), (2, .int x2), (3, .int x3), (4, .int x4), (5, .int x5)]) hx hb dX8_findFar_103 hl (by decide) rfl (fun ls hl => ?_)
  refine lv_aload_n hx hb dX8_findFar_105 rfl (lv_at hl 2 rfl) ?_
  obtain ⟨v5, ev5, h⟩ := zb_some h
  refine z_getr X flX8_68 hH ev5 dX8_findFar_106 ?_
  refine lv_sipush (v := (201 : Int32)) hx hb dX8_findFar_109 (by decide) ?_
  refine lv_iload hx hb dX8_findFar_112 (lv_at hl 6 rfl) ?_
  refine lv_imul hx hb dX8_findFar_114 ?_
  refine lv_iload hx hb dX8_findFar_115 (lv_at hl 7 rfl) ?_
  refine lv_iadd hx hb dX8_findFar_117 ?_
  refine lv_iconst (v := (1 : Int32)) hx hb dX8_findFar_118 (by decide) ?_
  refine lv_iadd hx hb dX8_findFar_119 ?_
  obtain ⟨v6, ev6, h⟩ := zb_some h
  refine z_iald X hH ev6 dX8_findFar_120 ?_
  refine lv_iconst (v := (1 : Int32)) hx hb dX8_findFar_121 (by decide) ?_
  refine lv_iadd hx hb dX8_findFar_122 ?_
  refine lv_istore (lv' := [(8, .int (v6 + (1 : Int32))), (7, .int (v4 + (1 : Int32))), (6, .int (y0 + y1)), (0, .ref x0), (1, .int x1), (2, .int x2), (3, .int x3), (4, .int x4), (5, .int x5)]) hx hb dX8_findFar_123 hl (by decide) rfl (fun ls hl => ?_)
  refine lv_iload hx hb dX8_findFar_125 (lv_at hl 1 rfl) ?_
  refine lv_iload hx hb dX8_findFar_127 (lv_at hl 2 rfl) ?_
  refine lv_icmp_ge (tgt := 137) hx hb dX8_findFar_129 (by decide) (fun c => ?_) (fun c => ?_)
  · have h := (if_pos c).symm.trans h
    refine lv_iload hx hb dX8_findFar_137 (lv_at hl 2 rfl) ?_
    exact wX8_findFar_139 X hK3 hK11 h _ _ _ hH hS (lv_sub hl [3, 4, 5, 6, 7, 8, 0] rfl)
  · have h := (if_neg c).symm.trans h
    refine lv_iload hx hb dX8_findFar_132 (lv_at hl 1 rfl) ?_
    refine lv_goto (tgt := 139) hx hb dX8_findFar_134 (by decide) ?_
    exact wX8_findFar_139 X hK3 hK11 h _ _ _ hH hS (lv_sub hl [3, 4, 5, 6, 7, 8, 0] rfl)
set_option maxRecDepth 100000 in
set_option maxHeartbeats 4000000 in
theorem wX8_findFar_28 {z : Nat} {N : Nat} {T : zS} (X : zX D cy p s m meth c cX8_findFar 9 RX8 none) {K3 : zS × Nat × Int32 × Int32 × Int32 × Int32 → Option (zS)} (hK3 : ∀ (S : zS) (x0 : Nat) (x1 : Int32) (x2 : Int32) (x3 : Int32) (x4 : Int32), K3 (S, x0, x1, x2, x3, x4) = some T → zWt D cy A p l e { frames := 1, cells := 0, slots := 0, locals := 22 } s m args below meth c z 0 0 0 0 (zQ D cy A T z none) S 9 3 [(0, .ref x0), (1, .int x1), (2, .int x2), (3, .int x3), (4, .int x4)] []) {K11 : zS × Nat × Int32 × Int32 × Int32 × Int32 × Int32 → Option (zS)} (hK11 : ∀ (S : zS) (x0 : Nat) (x1 : Int32) (x2 : Int32) (x3 : Int32) (x4 : Int32) (x5 : Int32), K11 (S, x0, x1, x2, x3, x4, x5) = some T → zWt D cy A p l e { frames := 1, cells := 0, slots := 0, locals := 22 } s m args below meth c z 0 0 0 0 (zQ D cy A T z none) S 9 11 [(0, .ref x0), (1, .int x1), (2, .int x2), (3, .int x3), (4, .int x4), (5, .int x5)] []) {S : zS} {x0 : Nat} {x1 : Int32} {x2 : Int32} {x3 : Int32} {x4 : Int32} {x5 : Int32} (h : fX8_findFar_28 N K3 K11 S x0 x1 x2 x3 x4 x5 = some T) : zWt D cy A p l e { frames := 1, cells := 0, slots := 0, locals := 22 } s m args below meth c z 0 0 0 0 (zQ D cy A T z none) S 9 28 [(0, .ref x0), (1, .int x1), (2, .int x2), (3, .int x3), (4, .int x4), (5, .int x5)] [] := by
  obtain ⟨hx, hb, hml, hown, hr, hlocks, hT⟩ := id X
  intro H locs ls hH hS hl
  unfold fX8_findFar_28 at h
  refine lv_iload_n hx hb dX8_findFar_28 rfl (lv_at hl 2 rfl) ?_
  refine lv_iload hx hb dX8_findFar_29 (lv_at hl 4 rfl) ?_
  refine lv_isub hx hb dX8_findFar_31 ?_
  refine lv_iload_n hx hb dX8_findFar_32 rfl (lv_at hl 3 rfl) ?_
  refine lv_iadd hx hb dX8_findFar_33 ?_
  refine lv_iload hx hb dX8_findFar_34 (lv_at hl 5 rfl) ?_
  refine lv_isub hx hb dX8_findFar_36 ?_
  refine lv_topi (fun v7 ev7 => ?_)
  have h := zlet_at ev7 h
  refine lv_istore (lv' := [(6, .int v7), (0, .ref x0), (1, .int x1), (2, .int x2), (3, .int x3), (4, .int x4), (5, .int x5)]) hx hb dX8_findFar_37 hl (by decide) rfl (fun ls hl => ?_)
  refine lv_goto (tgt := 157) hx hb dX8_findFar_39 (by decide) ?_
  exact wX8_findFar_157 X hK3 hK11 h _ _ _ hH hS (lv_sub hl [1, 2, 3, 4, 5, 6, 0] rfl)
set_option maxRecDepth 100000 in
set_option maxHeartbeats 4000000 in
theorem wX8_findFar_11 {z : Nat} {N : Nat} {T : zS} (X : zX D cy p s m meth c cX8_findFar 9 RX8 none) {K3 : zS × Nat × Int32 × Int32 × Int32 × Int32 → Option (zS)} (hK3 : ∀ (S : zS) (x0 : Nat) (x1 : Int32) (x2 : Int32) (x3 : Int32) (x4 : Int32), K3 (S, x0, x1, x2, x3, x4) = some T → zWt D cy A p l e { frames := 1, cells := 0, slots := 0, locals := 22 } s m args below meth c z 0 0 0 0 (zQ D cy A T z none) S 9 3 [(0, .ref x0), (1, .int x1), (2, .int x2), (3, .int x3), (4, .int x4)] []) {K11 : zS × Nat × Int32 × Int32 × Int32 × Int32 × Int32 → Option (zS)} (hK11 : ∀ (S : zS) (x0 : Nat) (x1 : Int32) (x2 : Int32) (x3 : Int32) (x4 : Int32) (x5 : Int32), K11 (S, x0, x1, x2, x3, x4, x5) = some T → zWt D cy A p l e { frames := 1, cells := 0, slots := 0, locals := 22 } s m args below meth c z 0 0 0 0 (zQ D cy A T z none) S 9 11 [(0, .ref x0), (1, .int x1), (2, .int x2), (3, .int x3), (4, .int x4), (5, .int x5)] []) {S : zS} {x0 : Nat} {x1 : Int32} {x2 : Int32} {x3 : Int32} {x4 : Int32} {x5 : Int32} (h : fX8_findFar_11 N K3 K11 S x0 x1 x2 x3 x4 x5 = some T) : zWt D cy A p l e { frames := 1, cells := 0, slots := 0, locals := 22 } s m args below meth c z 0 0 0 0 (zQ D cy A T z none) S 9 11 [(0, .ref x0), (1, .int x1), (2, .int x2), (3, .int x3), (4, .int x4), (5, .int x5)] [] := by
  obtain ⟨hx, hb, hml, hown, hr, hlocks, hT⟩ := id X
  intro H locs ls hH hS hl
  unfold fX8_findFar_11 at h
  refine lv_iload hx hb dX8_findFar_11 (lv_at hl 5 rfl) ?_
  refine lv_if_lt (tgt := 179) hx hb dX8_findFar_13 (by decide) (fun c => ?_) (fun c => ?_)
  · have h := (if_pos c).symm.trans h
    refine lv_iinc (v := (x4 + (-1 : Int32))) (lv' := [(4, .int (x4 + (-1 : Int32))), (0, .ref x0), (1, .int x1), (2, .int x2), (3, .int x3), (5, .int x5)]) hx hb dX8_findFar_179 hl (k := 4) rfl (z_ii (by decide) _) (by decide) rfl (fun ls hl => ?_)
    refine lv_goto (tgt := 3) hx hb dX8_findFar_182 (by decide) ?_
    exact hK3 _ _ _ _ _ _ h _ _ _ hH hS (lv_sub hl [1, 2, 3, 4, 0] rfl)
  · have h := (if_neg c).symm.trans h
    refine lv_iload hx hb dX8_findFar_16 (lv_at hl 4 rfl) ?_
    refine lv_iload_n hx hb dX8_findFar_18 rfl (lv_at hl 2 rfl) ?_
    refine lv_icmp_eq (tgt := 28) hx hb dX8_findFar_19 (by decide) (fun c => ?_) (fun c => ?_)
    · have h := (if_pos c).symm.trans h
      exact wX8_findFar_28 X hK3 hK11 h _ _ _ hH hS (lv_sub hl [0, 1, 2, 3, 4, 5] rfl)
    · have h := (if_neg c).symm.trans h
      refine lv_iload hx hb dX8_findFar_22 (lv_at hl 5 rfl) ?_
      refine lv_iload_n hx hb dX8_findFar_24 rfl (lv_at hl 3 rfl) ?_
      refine lv_icmp_ne (tgt := 42) hx hb dX8_findFar_25 (by decide) (fun c => ?_) (fun c => ?_)
      · have h := (if_neg c).symm.trans h
        refine lv_aload_n hx hb dX8_findFar_42 rfl (lv_at hl 0 rfl) ?_
        obtain ⟨v8, ev8, h⟩ := zb_some h
        refine z_getr X flX8_68 hH ev8 dX8_findFar_43 ?_
        refine lv_sipush (v := (201 : Int32)) hx hb dX8_findFar_46 (by decide) ?_
        refine lv_iload hx hb dX8_findFar_49 (lv_at hl 4 rfl) ?_
        refine lv_iconst (v := (1 : Int32)) hx hb dX8_findFar_51 (by decide) ?_
        refine lv_iadd hx hb dX8_findFar_52 ?_
        refine lv_imul hx hb dX8_findFar_53 ?_
        refine lv_iload hx hb dX8_findFar_54 (lv_at hl 5 rfl) ?_
        refine lv_iadd hx hb dX8_findFar_56 ?_
        refine lv_iconst (v := (1 : Int32)) hx hb dX8_findFar_57 (by decide) ?_
        refine lv_iadd hx hb dX8_findFar_58 ?_
        obtain ⟨v9, ev9, h⟩ := zb_some h
        refine z_iald X hH ev9 dX8_findFar_59 ?_
        refine lv_aload_n hx hb dX8_findFar_60 rfl (lv_at hl 0 rfl) ?_
        refine lv_iload_n hx hb dX8_findFar_61 rfl (lv_at hl 1 rfl) ?_
        refine lv_iload hx hb dX8_findFar_62 (lv_at hl 4 rfl) ?_
        obtain ⟨u10, eu10, h⟩ := zb_some h
        obtain ⟨v12, S11, eS11, h⟩ := zb2_some h
        refine z_cV (As := [.int x1, .int x4]) X hl hH hS mlX8_196 eu10 (kX8_first eS11) rfl rfl (Nat.le_of_ble_eq_true rfl) ⟨rfl, rfl, Nat.le_of_ble_eq_true rfl, Nat.le_of_ble_eq_true rfl⟩ ⟨Nat.le_refl _, Nat.le_refl _⟩ dX8_findFar_64 (fun H locs hH hS => ?_)
        refine lv_aload_n hx hb dX8_findFar_67 rfl (lv_at hl 0 rfl) ?_
        refine lv_iload_n hx hb dX8_findFar_68 rfl (lv_at hl 1 rfl) ?_
        refine lv_iload hx hb dX8_findFar_69 (lv_at hl 5 rfl) ?_
        obtain ⟨u13, eu13, h⟩ := zb_some h
        obtain ⟨v15, S14, eS14, h⟩ := zb2_some h
        refine z_cV (As := [.int x1, .int x5]) X hl hH hS mlX8_199 eu13 (kX8_second eS14) rfl rfl (Nat.le_of_ble_eq_true rfl) ⟨rfl, rfl, Nat.le_of_ble_eq_true rfl, Nat.le_of_ble_eq_true rfl⟩ ⟨Nat.le_refl _, Nat.le_refl _⟩ dX8_findFar_71 (fun H locs hH hS => ?_)
        refine lv_icmp_ne (tgt := 81) hx hb dX8_findFar_74 (by decide) (fun c => ?_) (fun c => ?_)
        · have h := (if_neg c).symm.trans h
          refine lv_iconst (v := (1 : Int32)) hx hb dX8_findFar_81 (by decide) ?_
          exact wX8_findFar_82 X hK3 hK11 h _ _ _ hH hS (lv_sub hl [0, 1, 2, 3, 4, 5] rfl)
        · have h := (if_pos c).symm.trans h
          refine lv_iconst (v := (0 : Int32)) hx hb dX8_findFar_77 (by decide) ?_
          refine lv_goto (tgt := 82) hx hb dX8_findFar_78 (by decide) ?_
          exact wX8_findFar_82 X hK3 hK11 h _ _ _ hH hS (lv_sub hl [0, 1, 2, 3, 4, 5] rfl)
      · have h := (if_pos c).symm.trans h
        exact wX8_findFar_28 X hK3 hK11 h _ _ _ hH hS (lv_sub hl [0, 1, 2, 3, 4, 5] rfl)
set_option maxRecDepth 100000 in
set_option maxHeartbeats 4000000 in
theorem uX8_findFar_11 {z : Nat} {N : Nat} {T : zS} (X : zX D cy p s m meth c cX8_findFar 9 RX8 none) {K3 : zS × Nat × Int32 × Int32 × Int32 × Int32 → Option (zS)} (hK3 : ∀ (S : zS) (x0 : Nat) (x1 : Int32) (x2 : Int32) (x3 : Int32) (x4 : Int32), K3 (S, x0, x1, x2, x3, x4) = some T → zWt D cy A p l e { frames := 1, cells := 0, slots := 0, locals := 22 } s m args below meth c z 0 0 0 0 (zQ D cy A T z none) S 9 3 [(0, .ref x0), (1, .int x1), (2, .int x2), (3, .int x3), (4, .int x4)] []) {S : zS} {x0 : Nat} {x1 : Int32} {x2 : Int32} {x3 : Int32} {x4 : Int32} {x5 : Int32} (h : lX8_findFar_11 N K3 S x0 x1 x2 x3 x4 x5 = some T) : zWt D cy A p l e { frames := 1, cells := 0, slots := 0, locals := 22 } s m args below meth c z 0 0 0 0 (zQ D cy A T z none) S 9 11 [(0, .ref x0), (1, .int x1), (2, .int x2), (3, .int x3), (4, .int x4), (5, .int x5)] [] := by
  unfold lX8_findFar_11 at h
  refine zloop_ind (P := fun y => zWt D cy A p l e { frames := 1, cells := 0, slots := 0, locals := 22 } s m args below meth c z 0 0 0 0 (zQ D cy A T z none) y.1 9 11 [(0, .ref y.2.1), (1, .int y.2.2.1), (2, .int y.2.2.2.1), (3, .int y.2.2.2.2.1), (4, .int y.2.2.2.2.2.1), (5, .int y.2.2.2.2.2.2)] []) ?_ N (S, x0, x1, x2, x3, x4, x5) h
  intro K hK y hy
  obtain ⟨S, x0, x1, x2, x3, x4, x5⟩ := y
  exact wX8_findFar_11 X hK3 (fun S x0 x1 x2 x3 x4 x5 hq => hK (S, x0, x1, x2, x3, x4, x5) hq) hy
set_option maxRecDepth 100000 in
set_option maxHeartbeats 4000000 in
theorem wX8_findFar_3 {z : Nat} {N : Nat} {T : zS} (X : zX D cy p s m meth c cX8_findFar 9 RX8 none) {K3 : zS × Nat × Int32 × Int32 × Int32 × Int32 → Option (zS)} (hK3 : ∀ (S : zS) (x0 : Nat) (x1 : Int32) (x2 : Int32) (x3 : Int32) (x4 : Int32), K3 (S, x0, x1, x2, x3, x4) = some T → zWt D cy A p l e { frames := 1, cells := 0, slots := 0, locals := 22 } s m args below meth c z 0 0 0 0 (zQ D cy A T z none) S 9 3 [(0, .ref x0), (1, .int x1), (2, .int x2), (3, .int x3), (4, .int x4)] []) {S : zS} {x0 : Nat} {x1 : Int32} {x2 : Int32} {x3 : Int32} {x4 : Int32} (h : fX8_findFar_3 N K3 S x0 x1 x2 x3 x4 = some T) : zWt D cy A p l e { frames := 1, cells := 0, slots := 0, locals := 22 } s m args below meth c z 0 0 0 0 (zQ D cy A T z none) S 9 3 [(0, .ref x0), (1, .int x1), (2, .int x2), (3, .int x3), (4, .int x4)] [] := by
  obtain ⟨hx, hb, hml, hown, hr, hlocks, hT⟩ := id X
  intro H locs ls hH hS hl
  unfold fX8_findFar_3 at h
  refine lv_iload hx hb dX8_findFar_3 (lv_at hl 4 rfl) ?_
  refine lv_if_lt (tgt := 185) hx hb dX8_findFar_5 (by decide) (fun c => ?_) (fun c => ?_)
  · have h := (if_pos c).symm.trans h
    exact z_vret X hH hS h dX8_findFar_185
  · have h := (if_neg c).symm.trans h
    refine lv_iload_n hx hb dX8_findFar_8 rfl (lv_at hl 3 rfl) ?_
    refine lv_istore (lv' := [(5, .int x3), (0, .ref x0), (1, .int x1), (2, .int x2), (3, .int x3), (4, .int x4)]) hx hb dX8_findFar_9 hl (by decide) rfl (fun ls hl => ?_)
    exact uX8_findFar_11 X hK3 h _ _ _ hH hS (lv_sub hl [1, 2, 3, 4, 5, 0] rfl)
set_option maxRecDepth 100000 in
set_option maxHeartbeats 4000000 in
theorem uX8_findFar_3 {z : Nat} {N : Nat} {T : zS} (X : zX D cy p s m meth c cX8_findFar 9 RX8 none)  {S : zS} {x0 : Nat} {x1 : Int32} {x2 : Int32} {x3 : Int32} {x4 : Int32} (h : lX8_findFar_3 N S x0 x1 x2 x3 x4 = some T) : zWt D cy A p l e { frames := 1, cells := 0, slots := 0, locals := 22 } s m args below meth c z 0 0 0 0 (zQ D cy A T z none) S 9 3 [(0, .ref x0), (1, .int x1), (2, .int x2), (3, .int x3), (4, .int x4)] [] := by
  unfold lX8_findFar_3 at h
  refine zloop_ind (P := fun y => zWt D cy A p l e { frames := 1, cells := 0, slots := 0, locals := 22 } s m args below meth c z 0 0 0 0 (zQ D cy A T z none) y.1 9 3 [(0, .ref y.2.1), (1, .int y.2.2.1), (2, .int y.2.2.2.1), (3, .int y.2.2.2.2.1), (4, .int y.2.2.2.2.2)] []) ?_ N (S, x0, x1, x2, x3, x4) h
  intro K hK y hy
  obtain ⟨S, x0, x1, x2, x3, x4⟩ := y
  exact wX8_findFar_3 X (fun S x0 x1 x2 x3 x4 hq => hK (S, x0, x1, x2, x3, x4) hq) hy
set_option maxRecDepth 100000 in
set_option maxHeartbeats 4000000 in
theorem wX8_findFar_0 {z : Nat} {N : Nat} {T : zS} (X : zX D cy p s m meth c cX8_findFar 9 RX8 none)  {S : zS} {x0 : Nat} {x1 : Int32} {x2 : Int32} {x3 : Int32} (h : fX8_findFar_0 N S x0 x1 x2 x3 = some T) : zWt D cy A p l e { frames := 1, cells := 0, slots := 0, locals := 22 } s m args below meth c z 0 0 0 0 (zQ D cy A T z none) S 9 0 [(0, .ref x0), (1, .int x1), (2, .int x2), (3, .int x3)] [] := by
  obtain ⟨hx, hb, hml, hown, hr, hlocks, hT⟩ := id X
  intro H locs ls hH hS hl
  unfold fX8_findFar_0 at h
  refine lv_iload_n hx hb dX8_findFar_0 rfl (lv_at hl 2 rfl) ?_
  refine lv_istore (lv' := [(4, .int x2), (0, .ref x0), (1, .int x1), (2, .int x2), (3, .int x3)]) hx hb dX8_findFar_1 hl (by decide) rfl (fun ls hl => ?_)
  exact uX8_findFar_3 X h _ _ _ hH hS (lv_sub hl [1, 2, 3, 4, 0] rfl)
set_option maxRecDepth 100000 in
theorem kX8_findFar {N : Nat} {T : zS} {S : zS} {z : Nat} {x0 : Nat} {x1 : Int32} {x2 : Int32} {x3 : Int32} (h : fX8_findFar N S x0 x1 x2 x3 = some T) : Met l yX8_findFar [.code yX8_findFar cX8_findFar 9 none] { frames := 1, cells := 0, slots := 0, locals := 22 } (zP D cy A S z [.ref x0, .int x1, .int x2, .int x3]) (zQ D cy A T z none) 0 0 A := by
  refine z_met (lv := [(0, .ref x0), (1, .int x1), (2, .int x2), (3, .int x3)]) (by decide) (Nat.le_of_ble_eq_true rfl) rfl ?_
  intro p e s m below meth c X H locs ls hH hS hl
  exact wX8_findFar_0 X h _ _ _ hH hS (lv_sub hl [0, 1, 2, 3] rfl)
set_option maxRecDepth 100000 in
set_option maxHeartbeats 4000000 in
theorem wX8_note_0 {z : Nat} {N : Nat} {T : zS} (X : zX D cy p s m meth c cX8_note 4 RX8 none)  {S : zS} {x0 : Nat} {x1 : Int32} {x2 : Int32} {x3 : Int32} (h : fX8_note_0 N S x0 x1 x2 x3 = some T) : zWt D cy A p l e { frames := 0, cells := 0, slots := 0, locals := 0 } s m args below meth c z 0 0 0 0 (zQ D cy A T z none) S 4 0 [(0, .ref x0), (1, .int x1), (2, .int x2), (3, .int x3)] [] := by
  obtain ⟨hx, hb, hml, hown, hr, hlocks, hT⟩ := id X
  intro H locs ls hH hS hl
  unfold fX8_note_0 at h
  refine lv_aload_n hx hb dX8_note_0 rfl (lv_at hl 0 rfl) ?_
  obtain ⟨v1, ev1, h⟩ := zb_some h
  refine z_getr X flX8_71 hH ev1 dX8_note_1 ?_
  refine lv_aload_n hx hb dX8_note_4 rfl (lv_at hl 0 rfl) ?_
  obtain ⟨v2, ev2, h⟩ := zb_some h
  refine z_geti X flX8_202 hH ev2 dX8_note_5 ?_
  refine lv_iload_n hx hb dX8_note_8 rfl (lv_at hl 1 rfl) ?_
  obtain ⟨S3, eS3, h⟩ := zb_some h
  refine z_iast X hH hS eS3 dX8_note_9 (fun H locs hH hS => ?_)
  refine lv_aload_n hx hb dX8_note_10 rfl (lv_at hl 0 rfl) ?_
  obtain ⟨v4, ev4, h⟩ := zb_some h
  refine z_getr X flX8_74 hH ev4 dX8_note_11 ?_
  refine lv_aload_n hx hb dX8_note_14 rfl (lv_at hl 0 rfl) ?_
  obtain ⟨v5, ev5, h⟩ := zb_some h
  refine z_geti X flX8_202 hH ev5 dX8_note_15 ?_
  refine lv_iload_n hx hb dX8_note_18 rfl (lv_at hl 2 rfl) ?_
  obtain ⟨S6, eS6, h⟩ := zb_some h
  refine z_iast X hH hS eS6 dX8_note_19 (fun H locs hH hS => ?_)
  refine lv_aload_n hx hb dX8_note_20 rfl (lv_at hl 0 rfl) ?_
  obtain ⟨v7, ev7, h⟩ := zb_some h
  refine z_getr X flX8_77 hH ev7 dX8_note_21 ?_
  refine lv_aload_n hx hb dX8_note_24 rfl (lv_at hl 0 rfl) ?_
  obtain ⟨v8, ev8, h⟩ := zb_some h
  refine z_geti X flX8_202 hH ev8 dX8_note_25 ?_
  refine lv_iload_n hx hb dX8_note_28 rfl (lv_at hl 3 rfl) ?_
  obtain ⟨S9, eS9, h⟩ := zb_some h
  refine z_iast X hH hS eS9 dX8_note_29 (fun H locs hH hS => ?_)
  refine lv_aload_n hx hb dX8_note_30 rfl (lv_at hl 0 rfl) ?_
  refine lv_dup hx hb dX8_note_31 rfl ?_
  obtain ⟨v10, ev10, h⟩ := zb_some h
  refine z_geti X flX8_202 hH ev10 dX8_note_32 ?_
  refine lv_iconst (v := (1 : Int32)) hx hb dX8_note_35 (by decide) ?_
  refine lv_iadd hx hb dX8_note_36 ?_
  obtain ⟨S11, eS11, h⟩ := zb_some h
  refine z_puti X flX8_202 fpX8_24 hH hS eS11 dX8_note_37 (fun H locs hH hS => ?_)
  exact z_vret X hH hS h dX8_note_40
set_option maxRecDepth 100000 in
theorem kX8_note {N : Nat} {T : zS} {S : zS} {z : Nat} {x0 : Nat} {x1 : Int32} {x2 : Int32} {x3 : Int32} (h : fX8_note N S x0 x1 x2 x3 = some T) : Met l yX8_note [.code yX8_note cX8_note 4 none] { frames := 0, cells := 0, slots := 0, locals := 0 } (zP D cy A S z [.ref x0, .int x1, .int x2, .int x3]) (zQ D cy A T z none) 0 0 A := by
  refine z_met (lv := [(0, .ref x0), (1, .int x1), (2, .int x2), (3, .int x3)]) (by decide) (Nat.le_of_ble_eq_true rfl) rfl ?_
  intro p e s m below meth c X H locs ls hH hS hl
  exact wX8_note_0 X h _ _ _ hH hS (lv_sub hl [0, 1, 2, 3] rfl)
set_option maxRecDepth 100000 in
set_option maxHeartbeats 4000000 in
theorem wX8_changes_304 {z : Nat} {N : Nat} {r : Int32} {T : zS} (X : zX D cy p s m meth c cX8_changes 10 RX8 (some .int)) {K85 : zS × Nat × Int32 × Int32 × Int32 × Int32 × Int32 → Option (Int32 × zS)} (hK85 : ∀ (S : zS) (x0 : Nat) (x3 : Int32) (x4 : Int32) (x5 : Int32) (x6 : Int32) (x7 : Int32), K85 (S, x0, x3, x4, x5, x6, x7) = some (r, T) → zWt D cy A p l e { frames := 6, cells := 0, slots := 0, locals := 142 } s m args below meth c z 0 0 0 0 (zQ D cy A T z (some (.int r))) S 10 85 [(0, .ref x0), (3, .int x3), (4, .int x4), (5, .int x5), (6, .int x6), (7, .int x7)] []) {S : zS} {x0 : Nat} {x3 : Int32} {x4 : Int32} {x5 : Int32} {x6 : Int32} {x7 : Int32} (h : fX8_changes_304 N K85 S x0 x3 x4 x5 x6 x7 = some (r, T)) : zWt D cy A p l e { frames := 6, cells := 0, slots := 0, locals := 142 } s m args below meth c z 0 0 0 0 (zQ D cy A T z (some (.int r))) S 10 304 [(0, .ref x0), (3, .int x3), (4, .int x4), (5, .int x5), (6, .int x6), (7, .int x7)] [] := by
  obtain ⟨hx, hb, hml, hown, hr, hlocks, hT⟩ := id X
  intro H locs ls hH hS hl
  unfold fX8_changes_304 at h
  refine lv_goto (tgt := 85) hx hb dX8_changes_304 (by decide) ?_
  exact hK85 _ _ _ _ _ _ _ h _ _ _ hH hS (lv_sub hl [0, 1, 2, 3, 4, 5] rfl)
set_option maxRecDepth 100000 in
set_option maxHeartbeats 4000000 in
theorem wX8_changes_287 {z : Nat} {N : Nat} {r : Int32} {T : zS} (X : zX D cy p s m meth c cX8_changes 10 RX8 (some .int)) {K85 : zS × Nat × Int32 × Int32 × Int32 × Int32 × Int32 → Option (Int32 × zS)} (hK85 : ∀ (S : zS) (x0 : Nat) (x3 : Int32) (x4 : Int32) (x5 : Int32) (x6 : Int32) (x7 : Int32), K85 (S, x0, x3, x4, x5, x6, x7) = some (r, T) → zWt D cy A p l e { frames := 6, cells := 0, slots := 0, locals := 142 } s m args below meth c z 0 0 0 0 (zQ D cy A T z (some (.int r))) S 10 85 [(0, .ref x0), (3, .int x3), (4, .int x4), (5, .int x5), (6, .int x6), (7, .int x7)] []) {S : zS} {x0 : Nat} {x3 : Int32} {x4 : Int32} {x5 : Int32} {x6 : Int32} {x7 : Int32} (h : fX8_changes_287 N K85 S x0 x3 x4 x5 x6 x7 = some (r, T)) : zWt D cy A p l e { frames := 6, cells := 0, slots := 0, locals := 142 } s m args below meth c z 0 0 0 0 (zQ D cy A T z (some (.int r))) S 10 287 [(0, .ref x0), (3, .int x3), (4, .int x4), (5, .int x5), (6, .int x6), (7, .int x7)] [] := by
  obtain ⟨hx, hb, hml, hown, hr, hlocks, hT⟩ := id X
  intro H locs ls hH hS hl
  unfold fX8_changes_287 at h
  refine lv_aload_n hx hb dX8_changes_287 rfl (lv_at hl 0 rfl) ?_
  refine lv_iconst (v := (2 : Int32)) hx hb dX8_changes_288 (by decide) ?_
  refine lv_iload hx hb dX8_changes_289 (lv_at hl 4 rfl) ?_
  refine lv_aload_n hx hb dX8_changes_291 rfl (lv_at hl 0 rfl) ?_
  refine lv_iload_n hx hb dX8_changes_292 rfl (lv_at hl 1 rfl) ?_
  refine lv_iload hx hb dX8_changes_293 (lv_at hl 5 rfl) ?_
  obtain ⟨u1, eu1, h⟩ := zb_some h
  obtain ⟨v3, S2, eS2, h⟩ := zb2_some h
  refine z_cV (As := [.int x3, .int x7]) X hl hH hS mlX8_199 eu1 (kX8_second eS2) rfl rfl (Nat.le_of_ble_eq_true rfl) ⟨rfl, rfl, Nat.le_of_ble_eq_true rfl, Nat.le_of_ble_eq_true rfl⟩ ⟨Nat.le_refl _, Nat.le_refl _⟩ dX8_changes_295 (fun H locs hH hS => ?_)
  obtain ⟨u4, eu4, h⟩ := zb_some h
  obtain ⟨S5, eS5, h⟩ := zb_some h
  refine z_cV (As := [.int (2 : Int32), .int x6, .int v3]) X hl hH hS mlX8_208 eu4 (kX8_note eS5) rfl rfl (Nat.le_of_ble_eq_true rfl) ⟨rfl, rfl, Nat.le_of_ble_eq_true rfl, Nat.le_of_ble_eq_true rfl⟩ ⟨Nat.le_refl _, Nat.le_refl _⟩ dX8_changes_298 (fun H locs hH hS => ?_)
  refine lv_iinc (v := (x7 + (1 : Int32))) (lv' := [(7, .int (x7 + (1 : Int32))), (0, .ref x0), (3, .int x3), (4, .int x4), (5, .int x5), (6, .int x6)]) hx hb dX8_changes_301 hl (k := 5) rfl (z_ii (by decide) _) (by decide) rfl (fun ls hl => ?_)
  exact wX8_changes_304 X hK85 h _ _ _ hH hS (lv_sub hl [1, 2, 3, 4, 5, 0] rfl)
set_option maxRecDepth 100000 in
set_option maxHeartbeats 4000000 in
theorem wX8_changes_243 {z : Nat} {N : Nat} {r : Int32} {T : zS} (X : zX D cy p s m meth c cX8_changes 10 RX8 (some .int)) {K85 : zS × Nat × Int32 × Int32 × Int32 × Int32 × Int32 → Option (Int32 × zS)} (hK85 : ∀ (S : zS) (x0 : Nat) (x3 : Int32) (x4 : Int32) (x5 : Int32) (x6 : Int32) (x7 : Int32), K85 (S, x0, x3, x4, x5, x6, x7) = some (r, T) → zWt D cy A p l e { frames := 6, cells := 0, slots := 0, locals := 142 } s m args below meth c z 0 0 0 0 (zQ D cy A T z (some (.int r))) S 10 85 [(0, .ref x0), (3, .int x3), (4, .int x4), (5, .int x5), (6, .int x6), (7, .int x7)] []) {S : zS} {x0 : Nat} {x3 : Int32} {x4 : Int32} {x5 : Int32} {x6 : Int32} {x7 : Int32} {x8 : Int32} (h : fX8_changes_243 N K85 S x0 x3 x4 x5 x6 x7 x8 = some (r, T)) : zWt D cy A p l e { frames := 6, cells := 0, slots := 0, locals := 142 } s m args below meth c z 0 0 0 0 (zQ D cy A T z (some (.int r))) S 10 243 [(0, .ref x0), (3, .int x3), (4, .int x4), (5, .int x5), (6, .int x6), (7, .int x7), (8, .int x8)] [] := by
  obtain ⟨hx, hb, hml, hown, hr, hlocks, hT⟩ := id X
  intro H locs ls hH hS hl
  unfold fX8_changes_243 at h
  refine lv_iload hx hb dX8_changes_243 (lv_at hl 4 rfl) ?_
  refine lv_iload hx hb dX8_changes_245 (lv_at hl 2 rfl) ?_
  refine lv_icmp_ge (tgt := 287) hx hb dX8_changes_247 (by decide) (fun c => ?_) (fun c => ?_)
  · have h := (if_pos c).symm.trans h
    exact wX8_changes_287 X hK85 h _ _ _ hH hS (lv_sub hl [0, 1, 2, 3, 4, 5] rfl)
  · have h := (if_neg c).symm.trans h
    refine lv_aload_n hx hb dX8_changes_250 rfl (lv_at hl 0 rfl) ?_
    obtain ⟨v6, ev6, h⟩ := zb_some h
    refine z_getr X flX8_68 hH ev6 dX8_changes_251 ?_
    refine lv_sipush (v := (201 : Int32)) hx hb dX8_changes_254 (by decide) ?_
    refine lv_iload hx hb dX8_changes_257 (lv_at hl 4 rfl) ?_
    refine lv_iconst (v := (1 : Int32)) hx hb dX8_changes_259 (by decide) ?_
    refine lv_iadd hx hb dX8_changes_260 ?_
    refine lv_imul hx hb dX8_changes_261 ?_
    refine lv_iload hx hb dX8_changes_262 (lv_at hl 5 rfl) ?_
    refine lv_iadd hx hb dX8_changes_264 ?_
    obtain ⟨v7, ev7, h⟩ := zb_some h
    refine z_iald X hH ev7 dX8_changes_265 ?_
    refine lv_iconst (v := (1 : Int32)) hx hb dX8_changes_266 (by decide) ?_
    refine lv_iadd hx hb dX8_changes_267 ?_
    refine lv_iload hx hb dX8_changes_268 (lv_at hl 6 rfl) ?_
    refine lv_icmp_ne (tgt := 287) hx hb dX8_changes_270 (by decide) (fun c => ?_) (fun c => ?_)
    · have h := (if_neg c).symm.trans h
      exact wX8_changes_287 X hK85 h _ _ _ hH hS (lv_sub hl [0, 1, 2, 3, 4, 5] rfl)
    · have h := (if_pos c).symm.trans h
      refine lv_aload_n hx hb dX8_changes_273 rfl (lv_at hl 0 rfl) ?_
      refine lv_iconst (v := (1 : Int32)) hx hb dX8_changes_274 (by decide) ?_
      refine lv_iload hx hb dX8_changes_275 (lv_at hl 4 rfl) ?_
      refine lv_iconst (v := (0 : Int32)) hx hb dX8_changes_277 (by decide) ?_
      obtain ⟨u8, eu8, h⟩ := zb_some h
      obtain ⟨S9, eS9, h⟩ := zb_some h
      refine z_cV (As := [.int (1 : Int32), .int x6, .int (0 : Int32)]) X hl hH hS mlX8_208 eu8 (kX8_note eS9) rfl rfl (Nat.le_of_ble_eq_true rfl) ⟨rfl, rfl, Nat.le_of_ble_eq_true rfl, Nat.le_of_ble_eq_true rfl⟩ ⟨Nat.le_refl _, Nat.le_refl _⟩ dX8_changes_278 (fun H locs hH hS => ?_)
      refine lv_iinc (v := (x6 + (1 : Int32))) (lv' := [(6, .int (x6 + (1 : Int32))), (0, .ref x0), (3, .int x3), (4, .int x4), (5, .int x5), (7, .int x7), (8, .int x8)]) hx hb dX8_changes_281 hl (k := 4) rfl (z_ii (by decide) _) (by decide) rfl (fun ls hl => ?_)
      refine lv_goto (tgt := 304) hx hb dX8_changes_284 (by decide) ?_
      exact wX8_changes_304 X hK85 h _ _ _ hH hS (lv_sub hl [1, 2, 3, 4, 0, 5] rfl)
set_option maxRecDepth 100000 in
set_option maxHeartbeats 4000000 in
theorem wX8_changes_190 {z : Nat} {N : Nat} {r : Int32} {T : zS} (X : zX D cy p s m meth c cX8_changes 10 RX8 (some .int)) {K85 : zS × Nat × Int32 × Int32 × Int32 × Int32 × Int32 → Option (Int32 × zS)} (hK85 : ∀ (S : zS) (x0 : Nat) (x3 : Int32) (x4 : Int32) (x5 : Int32) (x6 : Int32) (x7 : Int32), K85 (S, x0, x3, x4, x5, x6, x7) = some (r, T) → zWt D cy A p l e { frames := 6, cells := 0, slots := 0, locals := 142 } s m args below meth c z 0 0 0 0 (zQ D cy A T z (some (.int r))) S 10 85 [(0, .ref x0), (3, .int x3), (4, .int x4), (5, .int x5), (6, .int x6), (7, .int x7)] []) {S : zS} {x0 : Nat} {x3 : Int32} {x4 : Int32} {x5 : Int32} {x6 : Int32} {x7 : Int32} {x8 : Int32} {x9 : Int32} (h : fX8_changes_190 N K85 S x0 x3 x4 x5 x6 x7 x8 x9 = some (r, T)) : zWt D cy A p l e { frames := 6, cells := 0, slots := 0, locals := 142 } s m args below meth c z 0 0 0 0 (zQ D cy A T z (some (.int r))) S 10 190 [(0, .ref x0), (3, .int x3), (4, .int x4), (5, .int x5), (6, .int x6), (7, .int x7), (8, .int x8), (9, .int x9)] [] := by
  obtain ⟨hx, hb, hml, hown, hr, hlocks, hT⟩ := id X
  intro H locs ls hH hS hl
  unfold fX8_changes_190 at h
  refine lv_iload hx hb dX8_changes_190 (lv_at hl 7 rfl) ?_
  refine lv_if_eq (tgt := 243) hx hb dX8_changes_192 (by decide) (fun c => ?_) (fun c => ?_)
  · have h := (if_pos c).symm.trans h
    exact wX8_changes_243 X hK85 h _ _ _ hH hS (lv_sub hl [0, 1, 2, 3, 4, 5, 6] rfl)
  · have h := (if_neg c).symm.trans h
    refine lv_aload_n hx hb dX8_changes_195 rfl (lv_at hl 0 rfl) ?_
    obtain ⟨v10, ev10, h⟩ := zb_some h
    refine z_getr X flX8_68 hH ev10 dX8_changes_196 ?_
    refine lv_sipush (v := (201 : Int32)) hx hb dX8_changes_199 (by decide) ?_
    refine lv_iload hx hb dX8_changes_202 (lv_at hl 4 rfl) ?_
    refine lv_iconst (v := (1 : Int32)) hx hb dX8_changes_204 (by decide) ?_
    refine lv_iadd hx hb dX8_changes_205 ?_
    refine lv_imul hx hb dX8_changes_206 ?_
    refine lv_iload hx hb dX8_changes_207 (lv_at hl 5 rfl) ?_
    refine lv_iadd hx hb dX8_changes_209 ?_
    refine lv_iconst (v := (1 : Int32)) hx hb dX8_changes_210 (by decide) ?_
    refine lv_iadd hx hb dX8_changes_211 ?_
    obtain ⟨v11, ev11, h⟩ := zb_some h
    refine z_iald X hH ev11 dX8_changes_212 ?_
    refine lv_iconst (v := (1 : Int32)) hx hb dX8_changes_213 (by decide) ?_
    refine lv_iadd hx hb dX8_changes_214 ?_
    refine lv_iload hx hb dX8_changes_215 (lv_at hl 6 rfl) ?_
    refine lv_icmp_ne (tgt := 243) hx hb dX8_changes_217 (by decide) (fun c => ?_) (fun c => ?_)
    · have h := (if_neg c).symm.trans h
      exact wX8_changes_243 X hK85 h _ _ _ hH hS (lv_sub hl [0, 1, 2, 3, 4, 5, 6] rfl)
    · have h := (if_pos c).symm.trans h
      refine lv_aload_n hx hb dX8_changes_220 rfl (lv_at hl 0 rfl) ?_
      refine lv_iconst (v := (0 : Int32)) hx hb dX8_changes_221 (by decide) ?_
      refine lv_iload hx hb dX8_changes_222 (lv_at hl 4 rfl) ?_
      refine lv_aload_n hx hb dX8_changes_224 rfl (lv_at hl 0 rfl) ?_
      refine lv_iload_n hx hb dX8_changes_225 rfl (lv_at hl 1 rfl) ?_
      refine lv_iload hx hb dX8_changes_226 (lv_at hl 5 rfl) ?_
      obtain ⟨u12, eu12, h⟩ := zb_some h
      obtain ⟨v14, S13, eS13, h⟩ := zb2_some h
      refine z_cV (As := [.int x3, .int x7]) X hl hH hS mlX8_199 eu12 (kX8_second eS13) rfl rfl (Nat.le_of_ble_eq_true rfl) ⟨rfl, rfl, Nat.le_of_ble_eq_true rfl, Nat.le_of_ble_eq_true rfl⟩ ⟨Nat.le_refl _, Nat.le_refl _⟩ dX8_changes_228 (fun H locs hH hS => ?_)
      obtain ⟨u15, eu15, h⟩ := zb_some h
      obtain ⟨S16, eS16, h⟩ := zb_some h
      refine z_cV (As := [.int (0 : Int32), .int x6, .int v14]) X hl hH hS mlX8_208 eu15 (kX8_note eS16) rfl rfl (Nat.le_of_ble_eq_true rfl) ⟨rfl, rfl, Nat.le_of_ble_eq_true rfl, Nat.le_of_ble_eq_true rfl⟩ ⟨Nat.le_refl _, Nat.le_refl _⟩ dX8_changes_231 (fun H locs hH hS => ?_)
      refine lv_iinc (v := (x6 + (1 : Int32))) (lv' := [(6, .int (x6 + (1 : Int32))), (0, .ref x0), (3, .int x3), (4, .int x4), (5, .int x5), (7, .int x7), (8, .int x8), (9, .int x9)]) hx hb dX8_changes_234 hl (k := 4) rfl (z_ii (by decide) _) (by decide) rfl (fun ls hl => ?_)
      refine lv_iinc (v := (x7 + (1 : Int32))) (lv' := [(7, .int (x7 + (1 : Int32))), (6, .int (x6 + (1 : Int32))), (0, .ref x0), (3, .int x3), (4, .int x4), (5, .int x5), (8, .int x8), (9, .int x9)]) hx hb dX8_changes_237 hl (k := 5) rfl (z_ii (by decide) _) (by decide) rfl (fun ls hl => ?_)
      refine lv_goto (tgt := 304) hx hb dX8_changes_240 (by decide) ?_
      exact wX8_changes_304 X hK85 h _ _ _ hH hS (lv_sub hl [2, 3, 4, 5, 1, 0] rfl)
set_option maxRecDepth 100000 in
set_option maxHeartbeats 4000000 in
theorem wX8_changes_134 {z : Nat} {N : Nat} {r : Int32} {T : zS} (X : zX D cy p s m meth c cX8_changes 10 RX8 (some .int)) {K85 : zS × Nat × Int32 × Int32 × Int32 × Int32 × Int32 → Option (Int32 × zS)} (hK85 : ∀ (S : zS) (x0 : Nat) (x3 : Int32) (x4 : Int32) (x5 : Int32) (x6 : Int32) (x7 : Int32), K85 (S, x0, x3, x4, x5, x6, x7) = some (r, T) → zWt D cy A p l e { frames := 6, cells := 0, slots := 0, locals := 142 } s m args below meth c z 0 0 0 0 (zQ D cy A T z (some (.int r))) S 10 85 [(0, .ref x0), (3, .int x3), (4, .int x4), (5, .int x5), (6, .int x6), (7, .int x7)] []) {S : zS} {x0 : Nat} {x3 : Int32} {x4 : Int32} {x5 : Int32} {x6 : Int32} {x7 : Int32} {x8 : Int32} {y0 : Int32} (h : fX8_changes_134 N K85 S x0 x3 x4 x5 x6 x7 x8 y0 = some (r, T)) : zWt D cy A p l e { frames := 6, cells := 0, slots := 0, locals := 142 } s m args below meth c z 0 0 0 0 (zQ D cy A T z (some (.int r))) S 10 134 [(0, .ref x0), (3, .int x3), (4, .int x4), (5, .int x5), (6, .int x6), (7, .int x7), (8, .int x8)] [.int y0] := by
  obtain ⟨hx, hb, hml, hown, hr, hlocks, hT⟩ := id X
  intro H locs ls hH hS hl
  unfold fX8_changes_134 at h
  refine lv_istore (lv' := [(9, .int y0), (0, .ref x0), (3, .int x3), (4, .int x4), (5, .int x5), (6, .int x6), (7, .int x7), (8, .int x8)]) hx hb dX8_changes_134 hl (by decide) rfl (fun ls hl => ?_)
  refine lv_iload hx hb dX8_changes_136 (lv_at hl 0 rfl) ?_
  refine lv_if_eq (tgt := 190) hx hb dX8_changes_138 (by decide) (fun c => ?_) (fun c => ?_)
  · have h := (if_pos c).symm.trans h
    exact wX8_changes_190 X hK85 h _ _ _ hH hS (lv_sub hl [1, 2, 3, 4, 5, 6, 7, 0] rfl)
  · have h := (if_neg c).symm.trans h
    refine lv_aload_n hx hb dX8_changes_141 rfl (lv_at hl 1 rfl) ?_
    refine lv_iload_n hx hb dX8_changes_142 rfl (lv_at hl 2 rfl) ?_
    refine lv_iload hx hb dX8_changes_143 (lv_at hl 5 rfl) ?_
    obtain ⟨u17, eu17, h⟩ := zb_some h
    obtain ⟨v19, S18, eS18, h⟩ := zb2_some h
    refine z_cV (As := [.int x3, .int x6]) X hl hH hS mlX8_196 eu17 (kX8_first eS18) rfl rfl (Nat.le_of_ble_eq_true rfl) ⟨rfl, rfl, Nat.le_of_ble_eq_true rfl, Nat.le_of_ble_eq_true rfl⟩ ⟨Nat.le_refl _, Nat.le_refl _⟩ dX8_changes_145 (fun H locs hH hS => ?_)
    refine lv_aload_n hx hb dX8_changes_148 rfl (lv_at hl 1 rfl) ?_
    refine lv_iload_n hx hb dX8_changes_149 rfl (lv_at hl 2 rfl) ?_
    refine lv_iload hx hb dX8_changes_150 (lv_at hl 6 rfl) ?_
    obtain ⟨u20, eu20, h⟩ := zb_some h
    obtain ⟨v22, S21, eS21, h⟩ := zb2_some h
    refine z_cV (As := [.int x3, .int x7]) X hl hH hS mlX8_199 eu20 (kX8_second eS21) rfl rfl (Nat.le_of_ble_eq_true rfl) ⟨rfl, rfl, Nat.le_of_ble_eq_true rfl, Nat.le_of_ble_eq_true rfl⟩ ⟨Nat.le_refl _, Nat.le_refl _⟩ dX8_changes_152 (fun H locs hH hS => ?_)
    refine lv_icmp_ne (tgt := 190) hx hb dX8_changes_155 (by decide) (fun c => ?_) (fun c => ?_)
    · have h := (if_neg c).symm.trans h
      exact wX8_changes_190 X hK85 h _ _ _ hH hS (lv_sub hl [1, 2, 3, 4, 5, 6, 7, 0] rfl)
    · have h := (if_pos c).symm.trans h
      refine lv_aload_n hx hb dX8_changes_158 rfl (lv_at hl 1 rfl) ?_
      obtain ⟨v23, ev23, h⟩ := zb_some h
      refine z_getr X flX8_68 hH ev23 dX8_changes_159 ?_
      refine lv_sipush (v := (201 : Int32)) hx hb dX8_changes_162 (by decide) ?_
      refine lv_iload hx hb dX8_changes_165 (lv_at hl 5 rfl) ?_
      refine lv_iconst (v := (1 : Int32)) hx hb dX8_changes_167 (by decide) ?_
      refine lv_iadd hx hb dX8_changes_168 ?_
      refine lv_imul hx hb dX8_changes_169 ?_
      refine lv_iload hx hb dX8_changes_170 (lv_at hl 6 rfl) ?_
      refine lv_iadd hx hb dX8_changes_172 ?_
      refine lv_iconst (v := (1 : Int32)) hx hb dX8_changes_173 (by decide) ?_
      refine lv_iadd hx hb dX8_changes_174 ?_
      obtain ⟨v24, ev24, h⟩ := zb_some h
      refine z_iald X hH ev24 dX8_changes_175 ?_
      refine lv_iload hx hb dX8_changes_176 (lv_at hl 7 rfl) ?_
      refine lv_icmp_ne (tgt := 190) hx hb dX8_changes_178 (by decide) (fun c => ?_) (fun c => ?_)
      · have h := (if_neg c).symm.trans h
        exact wX8_changes_190 X hK85 h _ _ _ hH hS (lv_sub hl [1, 2, 3, 4, 5, 6, 7, 0] rfl)
      · have h := (if_pos c).symm.trans h
        refine lv_iinc (v := (x6 + (1 : Int32))) (lv' := [(6, .int (x6 + (1 : Int32))), (9, .int y0), (0, .ref x0), (3, .int x3), (4, .int x4), (5, .int x5), (7, .int x7), (8, .int x8)]) hx hb dX8_changes_181 hl (k := 5) rfl (z_ii (by decide) _) (by decide) rfl (fun ls hl => ?_)
        refine lv_iinc (v := (x7 + (1 : Int32))) (lv' := [(7, .int (x7 + (1 : Int32))), (6, .int (x6 + (1 : Int32))), (9, .int y0), (0, .ref x0), (3, .int x3), (4, .int x4), (5, .int x5), (8, .int x8)]) hx hb dX8_changes_184 hl (k := 6) rfl (z_ii (by decide) _) (by decide) rfl (fun ls hl => ?_)
        refine lv_goto (tgt := 304) hx hb dX8_changes_187 (by decide) ?_
        exact wX8_changes_304 X hK85 h _ _ _ hH hS (lv_sub hl [3, 4, 5, 6, 1, 0] rfl)
set_option maxRecDepth 100000 in
set_option maxHeartbeats 4000000 in
theorem wX8_changes_133 {z : Nat} {N : Nat} {r : Int32} {T : zS} (X : zX D cy p s m meth c cX8_changes 10 RX8 (some .int)) {K85 : zS × Nat × Int32 × Int32 × Int32 × Int32 × Int32 → Option (Int32 × zS)} (hK85 : ∀ (S : zS) (x0 : Nat) (x3 : Int32) (x4 : Int32) (x5 : Int32) (x6 : Int32) (x7 : Int32), K85 (S, x0, x3, x4, x5, x6, x7) = some (r, T) → zWt D cy A p l e { frames := 6, cells := 0, slots := 0, locals := 142 } s m args below meth c z 0 0 0 0 (zQ D cy A T z (some (.int r))) S 10 85 [(0, .ref x0), (3, .int x3), (4, .int x4), (5, .int x5), (6, .int x6), (7, .int x7)] []) {S : zS} {x0 : Nat} {x3 : Int32} {x4 : Int32} {x5 : Int32} {x6 : Int32} {x7 : Int32} {x8 : Int32} (h : fX8_changes_133 N K85 S x0 x3 x4 x5 x6 x7 x8 = some (r, T)) : zWt D cy A p l e { frames := 6, cells := 0, slots := 0, locals := 142 } s m args below meth c z 0 0 0 0 (zQ D cy A T z (some (.int r))) S 10 133 [(0, .ref x0), (3, .int x3), (4, .int x4), (5, .int x5), (6, .int x6), (7, .int x7), (8, .int x8)] [] := by
  obtain ⟨hx, hb, hml, hown, hr, hlocks, hT⟩ := id X
  intro H locs ls hH hS hl
  unfold fX8_changes_133 at h
  refine lv_iconst (v := (0 : Int32)) hx hb dX8_changes_133 (by decide) ?_
  exact wX8_changes_134 X hK85 h _ _ _ hH hS (lv_sub hl [0, 1, 2, 3, 4, 5, 6] rfl)
set_option maxRecDepth 100000 in
set_option maxHeartbeats 4000000 in
theorem wX8_changes_99 {z : Nat} {N : Nat} {r : Int32} {T : zS} (X : zX D cy p s m meth c cX8_changes 10 RX8 (some .int)) {K85 : zS × Nat × Int32 × Int32 × Int32 × Int32 × Int32 → Option (Int32 × zS)} (hK85 : ∀ (S : zS) (x0 : Nat) (x3 : Int32) (x4 : Int32) (x5 : Int32) (x6 : Int32) (x7 : Int32), K85 (S, x0, x3, x4, x5, x6, x7) = some (r, T) → zWt D cy A p l e { frames := 6, cells := 0, slots := 0, locals := 142 } s m args below meth c z 0 0 0 0 (zQ D cy A T z (some (.int r))) S 10 85 [(0, .ref x0), (3, .int x3), (4, .int x4), (5, .int x5), (6, .int x6), (7, .int x7)] []) {S : zS} {x0 : Nat} {x3 : Int32} {x4 : Int32} {x5 : Int32} {x6 : Int32} {x7 : Int32} (h : fX8_changes_99 N K85 S x0 x3 x4 x5 x6 x7 = some (r, T)) : zWt D cy A p l e { frames := 6, cells := 0, slots := 0, locals := 142 } s m args below meth c z 0 0 0 0 (zQ D cy A T z (some (.int r))) S 10 99 [(0, .ref x0), (3, .int x3), (4, .int x4), (5, .int x5), (6, .int x6), (7, .int x7)] [] := by
  obtain ⟨hx, hb, hml, hown, hr, hlocks, hT⟩ := id X
  intro H locs ls hH hS hl
  unfold fX8_changes_99 at h
  refine lv_aload_n hx hb dX8_changes_99 rfl (lv_at hl 0 rfl) ?_
  obtain ⟨v25, ev25, h⟩ := zb_some h
  refine z_getr X flX8_68 hH ev25 dX8_changes_100 ?_
  refine lv_sipush (v := (201 : Int32)) hx hb dX8_changes_103 (by decide) ?_
  refine lv_iload hx hb dX8_changes_106 (lv_at hl 4 rfl) ?_
  refine lv_imul hx hb dX8_changes_108 ?_
  refine lv_iload hx hb dX8_changes_109 (lv_at hl 5 rfl) ?_
  refine lv_iadd hx hb dX8_changes_111 ?_
  obtain ⟨v26, ev26, h⟩ := zb_some h
  refine z_iald X hH ev26 dX8_changes_112 ?_
  refine lv_istore (lv' := [(8, .int v26), (0, .ref x0), (3, .int x3), (4, .int x4), (5, .int x5), (6, .int x6), (7, .int x7)]) hx hb dX8_changes_113 hl (by decide) rfl (fun ls hl => ?_)
  refine lv_iload hx hb dX8_changes_115 (lv_at hl 5 rfl) ?_
  refine lv_iload hx hb dX8_changes_117 (lv_at hl 3 rfl) ?_
  refine lv_icmp_ge (tgt := 133) hx hb dX8_changes_119 (by decide) (fun c => ?_) (fun c => ?_)
  · have h := (if_pos c).symm.trans h
    exact wX8_changes_133 X hK85 h _ _ _ hH hS (lv_sub hl [1, 2, 3, 4, 5, 6, 0] rfl)
  · have h := (if_neg c).symm.trans h
    refine lv_iload hx hb dX8_changes_122 (lv_at hl 6 rfl) ?_
    refine lv_iload hx hb dX8_changes_124 (lv_at hl 4 rfl) ?_
    refine lv_icmp_ge (tgt := 133) hx hb dX8_changes_126 (by decide) (fun c => ?_) (fun c => ?_)
    · have h := (if_pos c).symm.trans h
      exact wX8_changes_133 X hK85 h _ _ _ hH hS (lv_sub hl [1, 2, 3, 4, 5, 6, 0] rfl)
    · have h := (if_neg c).symm.trans h
      refine lv_iconst (v := (1 : Int32)) hx hb dX8_changes_129 (by decide) ?_
      refine lv_goto (tgt := 134) hx hb dX8_changes_130 (by decide) ?_
      exact wX8_changes_134 X hK85 h _ _ _ hH hS (lv_sub hl [1, 2, 3, 4, 5, 6, 0] rfl)
set_option maxRecDepth 100000 in
set_option maxHeartbeats 4000000 in
theorem wX8_changes_85 {z : Nat} {N : Nat} {r : Int32} {T : zS} (X : zX D cy p s m meth c cX8_changes 10 RX8 (some .int)) {K85 : zS × Nat × Int32 × Int32 × Int32 × Int32 × Int32 → Option (Int32 × zS)} (hK85 : ∀ (S : zS) (x0 : Nat) (x3 : Int32) (x4 : Int32) (x5 : Int32) (x6 : Int32) (x7 : Int32), K85 (S, x0, x3, x4, x5, x6, x7) = some (r, T) → zWt D cy A p l e { frames := 6, cells := 0, slots := 0, locals := 142 } s m args below meth c z 0 0 0 0 (zQ D cy A T z (some (.int r))) S 10 85 [(0, .ref x0), (3, .int x3), (4, .int x4), (5, .int x5), (6, .int x6), (7, .int x7)] []) {S : zS} {x0 : Nat} {x3 : Int32} {x4 : Int32} {x5 : Int32} {x6 : Int32} {x7 : Int32} (h : fX8_changes_85 N K85 S x0 x3 x4 x5 x6 x7 = some (r, T)) : zWt D cy A p l e { frames := 6, cells := 0, slots := 0, locals := 142 } s m args below meth c z 0 0 0 0 (zQ D cy A T z (some (.int r))) S 10 85 [(0, .ref x0), (3, .int x3), (4, .int x4), (5, .int x5), (6, .int x6), (7, .int x7)] [] := by
  obtain ⟨hx, hb, hml, hown, hr, hlocks, hT⟩ := id X
  intro H locs ls hH hS hl
  unfold fX8_changes_85 at h
  refine lv_iload hx hb dX8_changes_85 (lv_at hl 4 rfl) ?_
  refine lv_iload hx hb dX8_changes_87 (lv_at hl 2 rfl) ?_
  refine lv_icmp_lt (tgt := 99) hx hb dX8_changes_89 (by decide) (fun c => ?_) (fun c => ?_)
  · have h := (if_pos c).symm.trans h
    exact wX8_changes_99 X hK85 h _ _ _ hH hS (lv_sub hl [0, 1, 2, 3, 4, 5] rfl)
  · have h := (if_neg c).symm.trans h
    refine lv_iload hx hb dX8_changes_92 (lv_at hl 5 rfl) ?_
    refine lv_iload hx hb dX8_changes_94 (lv_at hl 3 rfl) ?_
    refine lv_icmp_ge (tgt := 307) hx hb dX8_changes_96 (by decide) (fun c => ?_) (fun c => ?_)
    · have h := (if_pos c).symm.trans h
      refine lv_aload_n hx hb dX8_changes_307 rfl (lv_at hl 0 rfl) ?_
      obtain ⟨v27, ev27, h⟩ := zb_some h
      refine z_geti X flX8_202 hH ev27 dX8_changes_308 ?_
      exact z_iret X hH hS h dX8_changes_311
    · have h := (if_neg c).symm.trans h
      exact wX8_changes_99 X hK85 h _ _ _ hH hS (lv_sub hl [0, 1, 2, 3, 4, 5] rfl)
set_option maxRecDepth 100000 in
set_option maxHeartbeats 4000000 in
theorem uX8_changes_85 {z : Nat} {N : Nat} {r : Int32} {T : zS} (X : zX D cy p s m meth c cX8_changes 10 RX8 (some .int))  {S : zS} {x0 : Nat} {x3 : Int32} {x4 : Int32} {x5 : Int32} {x6 : Int32} {x7 : Int32} (h : lX8_changes_85 N S x0 x3 x4 x5 x6 x7 = some (r, T)) : zWt D cy A p l e { frames := 6, cells := 0, slots := 0, locals := 142 } s m args below meth c z 0 0 0 0 (zQ D cy A T z (some (.int r))) S 10 85 [(0, .ref x0), (3, .int x3), (4, .int x4), (5, .int x5), (6, .int x6), (7, .int x7)] [] := by
  unfold lX8_changes_85 at h
  refine zloop_ind (P := fun y => zWt D cy A p l e { frames := 6, cells := 0, slots := 0, locals := 142 } s m args below meth c z 0 0 0 0 (zQ D cy A T z (some (.int r))) y.1 10 85 [(0, .ref y.2.1), (3, .int y.2.2.1), (4, .int y.2.2.2.1), (5, .int y.2.2.2.2.1), (6, .int y.2.2.2.2.2.1), (7, .int y.2.2.2.2.2.2)] []) ?_ N (S, x0, x3, x4, x5, x6, x7) h
  intro K hK y hy
  obtain ⟨S, x0, x3, x4, x5, x6, x7⟩ := y
  exact wX8_changes_85 X (fun S x0 x3 x4 x5 x6 x7 hq => hK (S, x0, x3, x4, x5, x6, x7) hq) hy
set_option maxRecDepth 100000 in
set_option maxHeartbeats 4000000 in
theorem wX8_changes_62 {z : Nat} {N : Nat} {r : Int32} {T : zS} (X : zX D cy p s m meth c cX8_changes 10 RX8 (some .int))  {S : zS} (h : fX8_changes_62 N S = some (r, T)) : zWt D cy A p l e { frames := 6, cells := 0, slots := 0, locals := 142 } s m args below meth c z 0 0 0 0 (zQ D cy A T z (some (.int r))) S 10 62 [] [] := by
  obtain ⟨hx, hb, hml, hown, hr, hlocks, hT⟩ := id X
  intro H locs ls hH hS hl
  unfold fX8_changes_62 at h
  refine lv_bipush (v := (-2 : Int32)) hx hb dX8_changes_62 (by decide) ?_
  exact z_iret X hH hS h dX8_changes_64
set_option maxRecDepth 100000 in
set_option maxHeartbeats 4000000 in
theorem wX8_changes_22 {z : Nat} {N : Nat} {r : Int32} {T : zS} (X : zX D cy p s m meth c cX8_changes 10 RX8 (some .int))  {S : zS} (h : fX8_changes_22 N S = some (r, T)) : zWt D cy A p l e { frames := 6, cells := 0, slots := 0, locals := 142 } s m args below meth c z 0 0 0 0 (zQ D cy A T z (some (.int r))) S 10 22 [] [] := by
  obtain ⟨hx, hb, hml, hown, hr, hlocks, hT⟩ := id X
  intro H locs ls hH hS hl
  unfold fX8_changes_22 at h
  refine lv_iconst (v := (-1 : Int32)) hx hb dX8_changes_22 (by decide) ?_
  exact z_iret X hH hS h dX8_changes_23
set_option maxRecDepth 100000 in
set_option maxHeartbeats 4000000 in
theorem wX8_changes_0 {z : Nat} {N : Nat} {r : Int32} {T : zS} (X : zX D cy p s m meth c cX8_changes 10 RX8 (some .int))  {S : zS} {x0 : Nat} {x1 : Int32} {x2 : Int32} {x3 : Int32} (h : fX8_changes_0 N S x0 x1 x2 x3 = some (r, T)) : zWt D cy A p l e { frames := 6, cells := 0, slots := 0, locals := 142 } s m args below meth c z 0 0 0 0 (zQ D cy A T z (some (.int r))) S 10 0 [(0, .ref x0), (1, .int x1), (2, .int x2), (3, .int x3)] [] := by
  obtain ⟨hx, hb, hml, hown, hr, hlocks, hT⟩ := id X
  intro H locs ls hH hS hl
  unfold fX8_changes_0 at h
  refine lv_iload_n hx hb dX8_changes_0 rfl (lv_at hl 1 rfl) ?_
  obtain ⟨v29, S28, eS28, h⟩ := zb2_some h
  refine z_cS (As := [.int x1]) X hl hH hS mlX8_120 (kX8_isRoom eS28) rfl rfl (Nat.le_of_ble_eq_true rfl) ⟨rfl, rfl, Nat.le_of_ble_eq_true rfl, Nat.le_of_ble_eq_true rfl⟩ ⟨Nat.le_refl _, Nat.le_refl _⟩ dX8_changes_1 (fun H locs hH hS => ?_)
  refine lv_if_eq (tgt := 22) hx hb dX8_changes_4 (by decide) (fun c => ?_) (fun c => ?_)
  · have h := (if_pos c).symm.trans h
    exact wX8_changes_22 X h _ _ _ hH hS (lv_sub hl [] rfl)
  · have h := (if_neg c).symm.trans h
    refine lv_iload_n hx hb dX8_changes_7 rfl (lv_at hl 2 rfl) ?_
    obtain ⟨v31, S30, eS30, h⟩ := zb2_some h
    refine z_cS (As := [.int x2]) X hl hH hS mlX8_120 (kX8_isRoom eS30) rfl rfl (Nat.le_of_ble_eq_true rfl) ⟨rfl, rfl, Nat.le_of_ble_eq_true rfl, Nat.le_of_ble_eq_true rfl⟩ ⟨Nat.le_refl _, Nat.le_refl _⟩ dX8_changes_8 (fun H locs hH hS => ?_)
    refine lv_if_eq (tgt := 22) hx hb dX8_changes_11 (by decide) (fun c => ?_) (fun c => ?_)
    · have h := (if_pos c).symm.trans h
      exact wX8_changes_22 X h _ _ _ hH hS (lv_sub hl [] rfl)
    · have h := (if_neg c).symm.trans h
      refine lv_aload_n hx hb dX8_changes_14 rfl (lv_at hl 0 rfl) ?_
      refine lv_iload_n hx hb dX8_changes_15 rfl (lv_at hl 3 rfl) ?_
      obtain ⟨u32, eu32, h⟩ := zb_some h
      obtain ⟨v34, S33, eS33, h⟩ := zb2_some h
      refine z_cV (As := [.int x3]) X hl hH hS mlX8_126 eu32 (kX8_isStep eS33) rfl rfl (Nat.le_of_ble_eq_true rfl) ⟨rfl, rfl, Nat.le_of_ble_eq_true rfl, Nat.le_of_ble_eq_true rfl⟩ ⟨Nat.le_refl _, Nat.le_refl _⟩ dX8_changes_16 (fun H locs hH hS => ?_)
      refine lv_if_ne (tgt := 24) hx hb dX8_changes_19 (by decide) (fun c => ?_) (fun c => ?_)
      · have h := (if_neg c).symm.trans h
        refine lv_aload_n hx hb dX8_changes_24 rfl (lv_at hl 0 rfl) ?_
        refine lv_iload_n hx hb dX8_changes_25 rfl (lv_at hl 1 rfl) ?_
        refine lv_iload_n hx hb dX8_changes_26 rfl (lv_at hl 2 rfl) ?_
        refine lv_iload_n hx hb dX8_changes_27 rfl (lv_at hl 3 rfl) ?_
        obtain ⟨u35, eu35, h⟩ := zb_some h
        obtain ⟨S36, eS36, h⟩ := zb_some h
        refine z_cV (As := [.int x1, .int x2, .int x3]) X hl hH hS mlX8_189 eu35 (kX8_both eS36) rfl rfl (Nat.le_of_ble_eq_true rfl) ⟨rfl, rfl, Nat.le_of_ble_eq_true rfl, Nat.le_of_ble_eq_true rfl⟩ ⟨Nat.le_refl _, Nat.le_refl _⟩ dX8_changes_28 (fun H locs hH hS => ?_)
        refine lv_aload_n hx hb dX8_changes_31 rfl (lv_at hl 0 rfl) ?_
        obtain ⟨v37, ev37, h⟩ := zb_some h
        refine z_getr X flX8_44 hH ev37 dX8_changes_32 ?_
        refine lv_iload_n hx hb dX8_changes_35 rfl (lv_at hl 3 rfl) ?_
        obtain ⟨v38, ev38, h⟩ := zb_some h
        refine z_iald X hH ev38 dX8_changes_36 ?_
        refine lv_istore (lv' := [(4, .int v38), (0, .ref x0), (1, .int x1), (2, .int x2), (3, .int x3)]) hx hb dX8_changes_37 hl (by decide) rfl (fun ls hl => ?_)
        refine lv_aload_n hx hb dX8_changes_39 rfl (lv_at hl 1 rfl) ?_
        obtain ⟨v39, ev39, h⟩ := zb_some h
        refine z_getr X flX8_44 hH ev39 dX8_changes_40 ?_
        refine lv_bipush (v := (24 : Int32)) hx hb dX8_changes_43 (by decide) ?_
        refine lv_iload_n hx hb dX8_changes_45 rfl (lv_at hl 4 rfl) ?_
        refine lv_iadd hx hb dX8_changes_46 ?_
        obtain ⟨v40, ev40, h⟩ := zb_some h
        refine z_iald X hH ev40 dX8_changes_47 ?_
        refine lv_istore (lv' := [(5, .int v40), (4, .int v38), (0, .ref x0), (1, .int x1), (2, .int x2), (3, .int x3)]) hx hb dX8_changes_48 hl (by decide) rfl (fun ls hl => ?_)
        refine lv_iload hx hb dX8_changes_50 (lv_at hl 1 rfl) ?_
        refine lv_iconst (v := (-1 : Int32)) hx hb dX8_changes_52 (by decide) ?_
        refine lv_icmp_eq (tgt := 62) hx hb dX8_changes_53 (by decide) (fun c => ?_) (fun c => ?_)
        · have h := (if_pos c).symm.trans h
          exact wX8_changes_62 X h _ _ _ hH hS (lv_sub hl [] rfl)
        · have h := (if_neg c).symm.trans h
          refine lv_iload hx hb dX8_changes_56 (lv_at hl 0 rfl) ?_
          refine lv_iconst (v := (-1 : Int32)) hx hb dX8_changes_58 (by decide) ?_
          refine lv_icmp_ne (tgt := 65) hx hb dX8_changes_59 (by decide) (fun c => ?_) (fun c => ?_)
          · have h := (if_neg c).symm.trans h
            refine lv_aload_n hx hb dX8_changes_65 rfl (lv_at hl 2 rfl) ?_
            refine lv_iload_n hx hb dX8_changes_66 rfl (lv_at hl 5 rfl) ?_
            refine lv_iload hx hb dX8_changes_67 (lv_at hl 1 rfl) ?_
            refine lv_iload hx hb dX8_changes_69 (lv_at hl 0 rfl) ?_
            obtain ⟨u41, eu41, h⟩ := zb_some h
            obtain ⟨S42, eS42, h⟩ := zb_some h
            refine z_cV (As := [.int x3, .int v38, .int v40]) X hl hH hS mlX8_205 eu41 (kX8_findFar eS42) rfl rfl (Nat.le_of_ble_eq_true rfl) ⟨rfl, rfl, Nat.le_of_ble_eq_true rfl, Nat.le_of_ble_eq_true rfl⟩ ⟨Nat.le_refl _, Nat.le_refl _⟩ dX8_changes_71 (fun H locs hH hS => ?_)
            refine lv_aload_n hx hb dX8_changes_74 rfl (lv_at hl 2 rfl) ?_
            refine lv_iconst (v := (0 : Int32)) hx hb dX8_changes_75 (by decide) ?_
            obtain ⟨S43, eS43, h⟩ := zb_some h
            refine z_puti X flX8_202 fpX8_24 hH hS eS43 dX8_changes_76 (fun H locs hH hS => ?_)
            refine lv_iconst (v := (0 : Int32)) hx hb dX8_changes_79 (by decide) ?_
            refine lv_istore (lv' := [(6, .int (0 : Int32)), (5, .int v40), (4, .int v38), (0, .ref x0), (1, .int x1), (2, .int x2), (3, .int x3)]) hx hb dX8_changes_80 hl (by decide) rfl (fun ls hl => ?_)
            refine lv_iconst (v := (0 : Int32)) hx hb dX8_changes_82 (by decide) ?_
            refine lv_istore (lv' := [(7, .int (0 : Int32)), (6, .int (0 : Int32)), (5, .int v40), (4, .int v38), (0, .ref x0), (1, .int x1), (2, .int x2), (3, .int x3)]) hx hb dX8_changes_83 hl (by decide) rfl (fun ls hl => ?_)
            exact uX8_changes_85 X h _ _ _ hH hS (lv_sub hl [4, 7, 3, 2, 1, 0] rfl)
          · have h := (if_pos c).symm.trans h
            exact wX8_changes_62 X h _ _ _ hH hS (lv_sub hl [] rfl)
      · have h := (if_pos c).symm.trans h
        exact wX8_changes_22 X h _ _ _ hH hS (lv_sub hl [] rfl)
set_option maxRecDepth 100000 in
theorem kX8_changes {N : Nat} {r : Int32} {T : zS} {S : zS} {z : Nat} {x0 : Nat} {x1 : Int32} {x2 : Int32} {x3 : Int32} (h : fX8_changes N S x0 x1 x2 x3 = some (r, T)) : Met l yX8_changes [.code yX8_changes cX8_changes 10 (some .int)] { frames := 6, cells := 0, slots := 0, locals := 142 } (zP D cy A S z [.ref x0, .int x1, .int x2, .int x3]) (zQ D cy A T z (some (.int r))) 0 0 A := by
  refine z_met (lv := [(0, .ref x0), (1, .int x1), (2, .int x2), (3, .int x3)]) (by decide) (Nat.le_of_ble_eq_true rfl) rfl ?_
  intro p e s m below meth c X H locs ls hH hS hl
  exact wX8_changes_0 X h _ _ _ hH hS (lv_sub hl [0, 1, 2, 3] rfl)
set_option maxRecDepth 100000 in
set_option maxHeartbeats 4000000 in
theorem wX8_change_58 {z : Nat} {N : Nat} {r : Int32} {T : zS} (X : zX D cy p s m meth c cX8_change 3 RX8 (some .int))  {S : zS} {y0 : Int32} (h : fX8_change_58 N S y0 = some (r, T)) : zWt D cy A p l e { frames := 1, cells := 0, slots := 0, locals := 22 } s m args below meth c z 0 0 0 0 (zQ D cy A T z (some (.int r))) S 3 58 [] [.int y0] := by
  obtain ⟨hx, hb, hml, hown, hr, hlocks, hT⟩ := id X
  intro H locs ls hH hS hl
  unfold fX8_change_58 at h
  exact z_iret X hH hS h dX8_change_58
set_option maxRecDepth 100000 in
set_option maxHeartbeats 4000000 in
theorem wX8_change_23 {z : Nat} {N : Nat} {r : Int32} {T : zS} (X : zX D cy p s m meth c cX8_change 3 RX8 (some .int))  {S : zS} (h : fX8_change_23 N S = some (r, T)) : zWt D cy A p l e { frames := 1, cells := 0, slots := 0, locals := 22 } s m args below meth c z 0 0 0 0 (zQ D cy A T z (some (.int r))) S 3 23 [] [] := by
  obtain ⟨hx, hb, hml, hown, hr, hlocks, hT⟩ := id X
  intro H locs ls hH hS hl
  unfold fX8_change_23 at h
  refine lv_iconst (v := (-1 : Int32)) hx hb dX8_change_23 (by decide) ?_
  exact z_iret X hH hS h dX8_change_24
set_option maxRecDepth 100000 in
set_option maxHeartbeats 4000000 in
theorem wX8_change_0 {z : Nat} {N : Nat} {r : Int32} {T : zS} (X : zX D cy p s m meth c cX8_change 3 RX8 (some .int))  {S : zS} {x0 : Nat} {x1 : Int32} {x2 : Int32} (h : fX8_change_0 N S x0 x1 x2 = some (r, T)) : zWt D cy A p l e { frames := 1, cells := 0, slots := 0, locals := 22 } s m args below meth c z 0 0 0 0 (zQ D cy A T z (some (.int r))) S 3 0 [(0, .ref x0), (1, .int x1), (2, .int x2)] [] := by
  obtain ⟨hx, hb, hml, hown, hr, hlocks, hT⟩ := id X
  intro H locs ls hH hS hl
  unfold fX8_change_0 at h
  refine lv_iload_n hx hb dX8_change_0 rfl (lv_at hl 1 rfl) ?_
  refine lv_iconst (v := (0 : Int32)) hx hb dX8_change_1 (by decide) ?_
  refine lv_aload_n hx hb dX8_change_2 rfl (lv_at hl 0 rfl) ?_
  obtain ⟨v1, ev1, h⟩ := zb_some h
  refine z_geti X flX8_202 hH ev1 dX8_change_3 ?_
  refine lv_iconst (v := (1 : Int32)) hx hb dX8_change_6 (by decide) ?_
  refine lv_isub hx hb dX8_change_7 ?_
  obtain ⟨v3, S2, eS2, h⟩ := zb2_some h
  refine z_cS (As := [.int x1, .int (0 : Int32), .int (v1 - (1 : Int32))]) X hl hH hS mlX8_99 (kX8_in eS2) rfl rfl (Nat.le_of_ble_eq_true rfl) ⟨rfl, rfl, Nat.le_of_ble_eq_true rfl, Nat.le_of_ble_eq_true rfl⟩ ⟨Nat.le_refl _, Nat.le_refl _⟩ dX8_change_8 (fun H locs hH hS => ?_)
  refine lv_if_eq (tgt := 23) hx hb dX8_change_11 (by decide) (fun c => ?_) (fun c => ?_)
  · have h := (if_pos c).symm.trans h
    exact wX8_change_23 X h _ _ _ hH hS (lv_sub hl [] rfl)
  · have h := (if_neg c).symm.trans h
    refine lv_iload_n hx hb dX8_change_14 rfl (lv_at hl 2 rfl) ?_
    refine lv_iconst (v := (0 : Int32)) hx hb dX8_change_15 (by decide) ?_
    refine lv_iconst (v := (2 : Int32)) hx hb dX8_change_16 (by decide) ?_
    obtain ⟨v5, S4, eS4, h⟩ := zb2_some h
    refine z_cS (As := [.int x2, .int (0 : Int32), .int (2 : Int32)]) X hl hH hS mlX8_99 (kX8_in eS4) rfl rfl (Nat.le_of_ble_eq_true rfl) ⟨rfl, rfl, Nat.le_of_ble_eq_true rfl, Nat.le_of_ble_eq_true rfl⟩ ⟨Nat.le_refl _, Nat.le_refl _⟩ dX8_change_17 (fun H locs hH hS => ?_)
    refine lv_if_ne (tgt := 25) hx hb dX8_change_20 (by decide) (fun c => ?_) (fun c => ?_)
    · have h := (if_neg c).symm.trans h
      refine lv_iload_n hx hb dX8_change_25 rfl (lv_at hl 2 rfl) ?_
      refine lv_if_ne (tgt := 38) hx hb dX8_change_26 (by decide) (fun c => ?_) (fun c => ?_)
      · have h := (if_neg c).symm.trans h
        refine lv_iload_n hx hb dX8_change_38 rfl (lv_at hl 2 rfl) ?_
        refine lv_iconst (v := (1 : Int32)) hx hb dX8_change_39 (by decide) ?_
        refine lv_icmp_ne (tgt := 52) hx hb dX8_change_40 (by decide) (fun c => ?_) (fun c => ?_)
        · have h := (if_neg c).symm.trans h
          refine lv_aload_n hx hb dX8_change_52 rfl (lv_at hl 0 rfl) ?_
          obtain ⟨v6, ev6, h⟩ := zb_some h
          refine z_getr X flX8_77 hH ev6 dX8_change_53 ?_
          refine lv_iload_n hx hb dX8_change_56 rfl (lv_at hl 1 rfl) ?_
          obtain ⟨v7, ev7, h⟩ := zb_some h
          refine z_iald X hH ev7 dX8_change_57 ?_
          exact wX8_change_58 X h _ _ _ hH hS (lv_sub hl [] rfl)
        · have h := (if_pos c).symm.trans h
          refine lv_aload_n hx hb dX8_change_43 rfl (lv_at hl 0 rfl) ?_
          obtain ⟨v8, ev8, h⟩ := zb_some h
          refine z_getr X flX8_74 hH ev8 dX8_change_44 ?_
          refine lv_iload_n hx hb dX8_change_47 rfl (lv_at hl 1 rfl) ?_
          obtain ⟨v9, ev9, h⟩ := zb_some h
          refine z_iald X hH ev9 dX8_change_48 ?_
          refine lv_goto (tgt := 58) hx hb dX8_change_49 (by decide) ?_
          exact wX8_change_58 X h _ _ _ hH hS (lv_sub hl [] rfl)
      · have h := (if_pos c).symm.trans h
        refine lv_aload_n hx hb dX8_change_29 rfl (lv_at hl 0 rfl) ?_
        obtain ⟨v10, ev10, h⟩ := zb_some h
        refine z_getr X flX8_71 hH ev10 dX8_change_30 ?_
        refine lv_iload_n hx hb dX8_change_33 rfl (lv_at hl 1 rfl) ?_
        obtain ⟨v11, ev11, h⟩ := zb_some h
        refine z_iald X hH ev11 dX8_change_34 ?_
        refine lv_goto (tgt := 58) hx hb dX8_change_35 (by decide) ?_
        exact wX8_change_58 X h _ _ _ hH hS (lv_sub hl [] rfl)
    · have h := (if_pos c).symm.trans h
      exact wX8_change_23 X h _ _ _ hH hS (lv_sub hl [] rfl)
set_option maxRecDepth 100000 in
theorem kX8_change {N : Nat} {r : Int32} {T : zS} {S : zS} {z : Nat} {x0 : Nat} {x1 : Int32} {x2 : Int32} (h : fX8_change N S x0 x1 x2 = some (r, T)) : Met l yX8_change [.code yX8_change cX8_change 3 (some .int)] { frames := 1, cells := 0, slots := 0, locals := 22 } (zP D cy A S z [.ref x0, .int x1, .int x2]) (zQ D cy A T z (some (.int r))) 0 0 A := by
  refine z_met (lv := [(0, .ref x0), (1, .int x1), (2, .int x2)]) (by decide) (Nat.le_of_ble_eq_true rfl) rfl ?_
  intro p e s m below meth c X H locs ls hH hS hl
  exact wX8_change_0 X h _ _ _ hH hS (lv_sub hl [0, 1, 2] rfl)
set_option maxRecDepth 100000 in
set_option maxHeartbeats 4000000 in
theorem wX8_cause_163 {z : Nat} {N : Nat} {r : Int32} {T : zS} (X : zX D cy p s m meth c cX8_cause 8 RX8 (some .int)) {K52 : zS × Nat × Int32 × Int32 × Int32 → Option (Int32 × zS)} (hK52 : ∀ (S : zS) (x0 : Nat) (x3 : Int32) (x4 : Int32) (x5 : Int32), K52 (S, x0, x3, x4, x5) = some (r, T) → zWt D cy A p l e { frames := 6, cells := 0, slots := 0, locals := 142 } s m args below meth c z 0 0 0 0 (zQ D cy A T z (some (.int r))) S 8 52 [(0, .ref x0), (3, .int x3), (4, .int x4), (5, .int x5)] []) {S : zS} {x0 : Nat} {x3 : Int32} {x4 : Int32} {x5 : Int32} (h : fX8_cause_163 N K52 S x0 x3 x4 x5 = some (r, T)) : zWt D cy A p l e { frames := 6, cells := 0, slots := 0, locals := 142 } s m args below meth c z 0 0 0 0 (zQ D cy A T z (some (.int r))) S 8 163 [(0, .ref x0), (3, .int x3), (4, .int x4), (5, .int x5)] [] := by
  obtain ⟨hx, hb, hml, hown, hr, hlocks, hT⟩ := id X
  intro H locs ls hH hS hl
  unfold fX8_cause_163 at h
  refine lv_iinc (v := (x5 + (1 : Int32))) (lv' := [(5, .int (x5 + (1 : Int32))), (0, .ref x0), (3, .int x3), (4, .int x4)]) hx hb dX8_cause_163 hl (k := 3) rfl (z_ii (by decide) _) (by decide) rfl (fun ls hl => ?_)
  refine lv_goto (tgt := 52) hx hb dX8_cause_166 (by decide) ?_
  exact hK52 _ _ _ _ _ h _ _ _ hH hS (lv_sub hl [1, 2, 3, 0] rfl)
set_option maxRecDepth 100000 in
set_option maxHeartbeats 4000000 in
theorem wX8_cause_147 {z : Nat} {N : Nat} {r : Int32} {T : zS} (X : zX D cy p s m meth c cX8_cause 8 RX8 (some .int)) {K52 : zS × Nat × Int32 × Int32 × Int32 → Option (Int32 × zS)} (hK52 : ∀ (S : zS) (x0 : Nat) (x3 : Int32) (x4 : Int32) (x5 : Int32), K52 (S, x0, x3, x4, x5) = some (r, T) → zWt D cy A p l e { frames := 6, cells := 0, slots := 0, locals := 142 } s m args below meth c z 0 0 0 0 (zQ D cy A T z (some (.int r))) S 8 52 [(0, .ref x0), (3, .int x3), (4, .int x4), (5, .int x5)] []) {K86 : zS × Nat × Int32 × Int32 × Int32 × Int32 × Int32 → Option (Int32 × zS)} (hK86 : ∀ (S : zS) (x0 : Nat) (x3 : Int32) (x4 : Int32) (x5 : Int32) (x6 : Int32) (x7 : Int32), K86 (S, x0, x3, x4, x5, x6, x7) = some (r, T) → zWt D cy A p l e { frames := 6, cells := 0, slots := 0, locals := 142 } s m args below meth c z 0 0 0 0 (zQ D cy A T z (some (.int r))) S 8 86 [(0, .ref x0), (3, .int x3), (4, .int x4), (5, .int x5), (6, .int x6), (7, .int x7)] []) {S : zS} {x0 : Nat} {x3 : Int32} {x4 : Int32} {x5 : Int32} {x7 : Int32} {y0 : Int32} (h : fX8_cause_147 N K52 K86 S x0 x3 x4 x5 x7 y0 = some (r, T)) : zWt D cy A p l e { frames := 6, cells := 0, slots := 0, locals := 142 } s m args below meth c z 0 0 0 0 (zQ D cy A T z (some (.int r))) S 8 147 [(0, .ref x0), (3, .int x3), (4, .int x4), (5, .int x5), (7, .int x7)] [.int y0] := by
  obtain ⟨hx, hb, hml, hown, hr, hlocks, hT⟩ := id X
  intro H locs ls hH hS hl
  unfold fX8_cause_147 at h
  refine lv_istore (lv' := [(6, .int y0), (0, .ref x0), (3, .int x3), (4, .int x4), (5, .int x5), (7, .int x7)]) hx hb dX8_cause_147 hl (by decide) rfl (fun ls hl => ?_)
  refine lv_iinc (v := (x7 + (1 : Int32))) (lv' := [(7, .int (x7 + (1 : Int32))), (6, .int y0), (0, .ref x0), (3, .int x3), (4, .int x4), (5, .int x5)]) hx hb dX8_cause_149 hl (k := 5) rfl (z_ii (by decide) _) (by decide) rfl (fun ls hl => ?_)
  refine lv_goto (tgt := 86) hx hb dX8_cause_152 (by decide) ?_
  exact hK86 _ _ _ _ _ _ _ h _ _ _ hH hS (lv_sub hl [2, 3, 4, 5, 1, 0] rfl)
set_option maxRecDepth 100000 in
set_option maxHeartbeats 4000000 in
theorem wX8_cause_146 {z : Nat} {N : Nat} {r : Int32} {T : zS} (X : zX D cy p s m meth c cX8_cause 8 RX8 (some .int)) {K52 : zS × Nat × Int32 × Int32 × Int32 → Option (Int32 × zS)} (hK52 : ∀ (S : zS) (x0 : Nat) (x3 : Int32) (x4 : Int32) (x5 : Int32), K52 (S, x0, x3, x4, x5) = some (r, T) → zWt D cy A p l e { frames := 6, cells := 0, slots := 0, locals := 142 } s m args below meth c z 0 0 0 0 (zQ D cy A T z (some (.int r))) S 8 52 [(0, .ref x0), (3, .int x3), (4, .int x4), (5, .int x5)] []) {K86 : zS × Nat × Int32 × Int32 × Int32 × Int32 × Int32 → Option (Int32 × zS)} (hK86 : ∀ (S : zS) (x0 : Nat) (x3 : Int32) (x4 : Int32) (x5 : Int32) (x6 : Int32) (x7 : Int32), K86 (S, x0, x3, x4, x5, x6, x7) = some (r, T) → zWt D cy A p l e { frames := 6, cells := 0, slots := 0, locals := 142 } s m args below meth c z 0 0 0 0 (zQ D cy A T z (some (.int r))) S 8 86 [(0, .ref x0), (3, .int x3), (4, .int x4), (5, .int x5), (6, .int x6), (7, .int x7)] []) {S : zS} {x0 : Nat} {x3 : Int32} {x4 : Int32} {x5 : Int32} {x7 : Int32} (h : fX8_cause_146 N K52 K86 S x0 x3 x4 x5 x7 = some (r, T)) : zWt D cy A p l e { frames := 6, cells := 0, slots := 0, locals := 142 } s m args below meth c z 0 0 0 0 (zQ D cy A T z (some (.int r))) S 8 146 [(0, .ref x0), (3, .int x3), (4, .int x4), (5, .int x5), (7, .int x7)] [] := by
  obtain ⟨hx, hb, hml, hown, hr, hlocks, hT⟩ := id X
  intro H locs ls hH hS hl
  unfold fX8_cause_146 at h
  refine lv_iconst (v := (0 : Int32)) hx hb dX8_cause_146 (by decide) ?_
  exact wX8_cause_147 X hK52 hK86 h _ _ _ hH hS (lv_sub hl [0, 1, 2, 3, 4] rfl)
set_option maxRecDepth 100000 in
set_option maxHeartbeats 4000000 in
theorem wX8_cause_142 {z : Nat} {N : Nat} {r : Int32} {T : zS} (X : zX D cy p s m meth c cX8_cause 8 RX8 (some .int)) {K52 : zS × Nat × Int32 × Int32 × Int32 → Option (Int32 × zS)} (hK52 : ∀ (S : zS) (x0 : Nat) (x3 : Int32) (x4 : Int32) (x5 : Int32), K52 (S, x0, x3, x4, x5) = some (r, T) → zWt D cy A p l e { frames := 6, cells := 0, slots := 0, locals := 142 } s m args below meth c z 0 0 0 0 (zQ D cy A T z (some (.int r))) S 8 52 [(0, .ref x0), (3, .int x3), (4, .int x4), (5, .int x5)] []) {K86 : zS × Nat × Int32 × Int32 × Int32 × Int32 × Int32 → Option (Int32 × zS)} (hK86 : ∀ (S : zS) (x0 : Nat) (x3 : Int32) (x4 : Int32) (x5 : Int32) (x6 : Int32) (x7 : Int32), K86 (S, x0, x3, x4, x5, x6, x7) = some (r, T) → zWt D cy A p l e { frames := 6, cells := 0, slots := 0, locals := 142 } s m args below meth c z 0 0 0 0 (zQ D cy A T z (some (.int r))) S 8 86 [(0, .ref x0), (3, .int x3), (4, .int x4), (5, .int x5), (6, .int x6), (7, .int x7)] []) {S : zS} {x0 : Nat} {x3 : Int32} {x4 : Int32} {x5 : Int32} {x7 : Int32} (h : fX8_cause_142 N K52 K86 S x0 x3 x4 x5 x7 = some (r, T)) : zWt D cy A p l e { frames := 6, cells := 0, slots := 0, locals := 142 } s m args below meth c z 0 0 0 0 (zQ D cy A T z (some (.int r))) S 8 142 [(0, .ref x0), (3, .int x3), (4, .int x4), (5, .int x5), (7, .int x7)] [] := by
  obtain ⟨hx, hb, hml, hown, hr, hlocks, hT⟩ := id X
  intro H locs ls hH hS hl
  unfold fX8_cause_142 at h
  refine lv_iconst (v := (1 : Int32)) hx hb dX8_cause_142 (by decide) ?_
  refine lv_goto (tgt := 147) hx hb dX8_cause_143 (by decide) ?_
  exact wX8_cause_147 X hK52 hK86 h _ _ _ hH hS (lv_sub hl [0, 1, 2, 3, 4] rfl)
set_option maxRecDepth 100000 in
set_option maxHeartbeats 4000000 in
theorem wX8_cause_86 {z : Nat} {N : Nat} {r : Int32} {T : zS} (X : zX D cy p s m meth c cX8_cause 8 RX8 (some .int)) {K52 : zS × Nat × Int32 × Int32 × Int32 → Option (Int32 × zS)} (hK52 : ∀ (S : zS) (x0 : Nat) (x3 : Int32) (x4 : Int32) (x5 : Int32), K52 (S, x0, x3, x4, x5) = some (r, T) → zWt D cy A p l e { frames := 6, cells := 0, slots := 0, locals := 142 } s m args below meth c z 0 0 0 0 (zQ D cy A T z (some (.int r))) S 8 52 [(0, .ref x0), (3, .int x3), (4, .int x4), (5, .int x5)] []) {K86 : zS × Nat × Int32 × Int32 × Int32 × Int32 × Int32 → Option (Int32 × zS)} (hK86 : ∀ (S : zS) (x0 : Nat) (x3 : Int32) (x4 : Int32) (x5 : Int32) (x6 : Int32) (x7 : Int32), K86 (S, x0, x3, x4, x5, x6, x7) = some (r, T) → zWt D cy A p l e { frames := 6, cells := 0, slots := 0, locals := 142 } s m args below meth c z 0 0 0 0 (zQ D cy A T z (some (.int r))) S 8 86 [(0, .ref x0), (3, .int x3), (4, .int x4), (5, .int x5), (6, .int x6), (7, .int x7)] []) {S : zS} {x0 : Nat} {x3 : Int32} {x4 : Int32} {x5 : Int32} {x6 : Int32} {x7 : Int32} (h : fX8_cause_86 N K52 K86 S x0 x3 x4 x5 x6 x7 = some (r, T)) : zWt D cy A p l e { frames := 6, cells := 0, slots := 0, locals := 142 } s m args below meth c z 0 0 0 0 (zQ D cy A T z (some (.int r))) S 8 86 [(0, .ref x0), (3, .int x3), (4, .int x4), (5, .int x5), (6, .int x6), (7, .int x7)] [] := by
  obtain ⟨hx, hb, hml, hown, hr, hlocks, hT⟩ := id X
  intro H locs ls hH hS hl
  unfold fX8_cause_86 at h
  refine lv_iload hx hb dX8_cause_86 (lv_at hl 5 rfl) ?_
  refine lv_aload_n hx hb dX8_cause_88 rfl (lv_at hl 0 rfl) ?_
  obtain ⟨v1, ev1, h⟩ := zb_some h
  refine z_getr X flX8_35 hH ev1 dX8_cause_89 ?_
  refine lv_iload hx hb dX8_cause_92 (lv_at hl 3 rfl) ?_
  obtain ⟨v2, ev2, h⟩ := zb_some h
  refine z_iald X hH ev2 dX8_cause_94 ?_
  refine lv_icmp_ge (tgt := 155) hx hb dX8_cause_95 (by decide) (fun c => ?_) (fun c => ?_)
  · have h := (if_pos c).symm.trans h
    refine lv_iload hx hb dX8_cause_155 (lv_at hl 4 rfl) ?_
    refine lv_if_eq (tgt := 163) hx hb dX8_cause_157 (by decide) (fun c => ?_) (fun c => ?_)
    · have h := (if_pos c).symm.trans h
      exact wX8_cause_163 X hK52 h _ _ _ hH hS (lv_sub hl [0, 1, 2, 3] rfl)
    · have h := (if_neg c).symm.trans h
      refine lv_iload hx hb dX8_cause_160 (lv_at hl 3 rfl) ?_
      exact z_iret X hH hS h dX8_cause_162
  · have h := (if_neg c).symm.trans h
    refine lv_iload hx hb dX8_cause_98 (lv_at hl 4 rfl) ?_
    refine lv_if_eq (tgt := 146) hx hb dX8_cause_100 (by decide) (fun c => ?_) (fun c => ?_)
    · have h := (if_pos c).symm.trans h
      exact wX8_cause_146 X hK52 hK86 h _ _ _ hH hS (lv_sub hl [0, 1, 2, 3, 5] rfl)
    · have h := (if_neg c).symm.trans h
      refine lv_aload_n hx hb dX8_cause_103 rfl (lv_at hl 0 rfl) ?_
      obtain ⟨v3, ev3, h⟩ := zb_some h
      refine z_getr X flX8_38 hH ev3 dX8_cause_104 ?_
      refine lv_iconst (v := (4 : Int32)) hx hb dX8_cause_107 (by decide) ?_
      refine lv_iload hx hb dX8_cause_108 (lv_at hl 3 rfl) ?_
      refine lv_imul hx hb dX8_cause_110 ?_
      refine lv_iload hx hb dX8_cause_111 (lv_at hl 5 rfl) ?_
      refine lv_iadd hx hb dX8_cause_113 ?_
      obtain ⟨v4, ev4, h⟩ := zb_some h
      refine z_iald X hH ev4 dX8_cause_114 ?_
      refine lv_bipush (v := (100 : Int32)) hx hb dX8_cause_115 (by decide) ?_
      refine lv_icmp_lt (tgt := 142) hx hb dX8_cause_117 (by decide) (fun c => ?_) (fun c => ?_)
      · have h := (if_pos c).symm.trans h
        exact wX8_cause_142 X hK52 hK86 h _ _ _ hH hS (lv_sub hl [0, 1, 2, 3, 5] rfl)
      · have h := (if_neg c).symm.trans h
        refine lv_aload_n hx hb dX8_cause_120 rfl (lv_at hl 0 rfl) ?_
        refine lv_aload_n hx hb dX8_cause_121 rfl (lv_at hl 0 rfl) ?_
        obtain ⟨v5, ev5, h⟩ := zb_some h
        refine z_getr X flX8_38 hH ev5 dX8_cause_122 ?_
        refine lv_iconst (v := (4 : Int32)) hx hb dX8_cause_125 (by decide) ?_
        refine lv_iload hx hb dX8_cause_126 (lv_at hl 3 rfl) ?_
        refine lv_imul hx hb dX8_cause_128 ?_
        refine lv_iload hx hb dX8_cause_129 (lv_at hl 5 rfl) ?_
        refine lv_iadd hx hb dX8_cause_131 ?_
        obtain ⟨v6, ev6, h⟩ := zb_some h
        refine z_iald X hH ev6 dX8_cause_132 ?_
        refine lv_bipush (v := (100 : Int32)) hx hb dX8_cause_133 (by decide) ?_
        refine lv_isub hx hb dX8_cause_135 ?_
        obtain ⟨u7, eu7, h⟩ := zb_some h
        obtain ⟨v9, S8, eS8, h⟩ := zb2_some h
        refine z_cV (As := [.int (v6 - (100 : Int32))]) X hl hH hS mlX8_193 eu7 (kX8_areAlike eS8) rfl rfl (Nat.le_of_ble_eq_true rfl) ⟨rfl, rfl, Nat.le_of_ble_eq_true rfl, Nat.le_of_ble_eq_true rfl⟩ ⟨Nat.le_refl _, Nat.le_refl _⟩ dX8_cause_136 (fun H locs hH hS => ?_)
        refine lv_if_eq (tgt := 146) hx hb dX8_cause_139 (by decide) (fun c => ?_) (fun c => ?_)
        · have h := (if_pos c).symm.trans h
          exact wX8_cause_146 X hK52 hK86 h _ _ _ hH hS (lv_sub hl [0, 1, 2, 3, 5] rfl)
        · have h := (if_neg c).symm.trans h
          exact wX8_cause_142 X hK52 hK86 h _ _ _ hH hS (lv_sub hl [0, 1, 2, 3, 5] rfl)
set_option maxRecDepth 100000 in
set_option maxHeartbeats 4000000 in
theorem uX8_cause_86 {z : Nat} {N : Nat} {r : Int32} {T : zS} (X : zX D cy p s m meth c cX8_cause 8 RX8 (some .int)) {K52 : zS × Nat × Int32 × Int32 × Int32 → Option (Int32 × zS)} (hK52 : ∀ (S : zS) (x0 : Nat) (x3 : Int32) (x4 : Int32) (x5 : Int32), K52 (S, x0, x3, x4, x5) = some (r, T) → zWt D cy A p l e { frames := 6, cells := 0, slots := 0, locals := 142 } s m args below meth c z 0 0 0 0 (zQ D cy A T z (some (.int r))) S 8 52 [(0, .ref x0), (3, .int x3), (4, .int x4), (5, .int x5)] []) {S : zS} {x0 : Nat} {x3 : Int32} {x4 : Int32} {x5 : Int32} {x6 : Int32} {x7 : Int32} (h : lX8_cause_86 N K52 S x0 x3 x4 x5 x6 x7 = some (r, T)) : zWt D cy A p l e { frames := 6, cells := 0, slots := 0, locals := 142 } s m args below meth c z 0 0 0 0 (zQ D cy A T z (some (.int r))) S 8 86 [(0, .ref x0), (3, .int x3), (4, .int x4), (5, .int x5), (6, .int x6), (7, .int x7)] [] := by
  unfold lX8_cause_86 at h
  refine zloop_ind (P := fun y => zWt D cy A p l e { frames := 6, cells := 0, slots := 0, locals := 142 } s m args below meth c z 0 0 0 0 (zQ D cy A T z (some (.int r))) y.1 8 86 [(0, .ref y.2.1), (3, .int y.2.2.1), (4, .int y.2.2.2.1), (5, .int y.2.2.2.2.1), (6, .int y.2.2.2.2.2.1), (7, .int y.2.2.2.2.2.2)] []) ?_ N (S, x0, x3, x4, x5, x6, x7) h
  intro K hK y hy
  obtain ⟨S, x0, x3, x4, x5, x6, x7⟩ := y
  exact wX8_cause_86 X hK52 (fun S x0 x3 x4 x5 x6 x7 hq => hK (S, x0, x3, x4, x5, x6, x7) hq) hy
set_option maxRecDepth 100000 in
set_option maxHeartbeats 4000000 in
theorem wX8_cause_52 {z : Nat} {N : Nat} {r : Int32} {T : zS} (X : zX D cy p s m meth c cX8_cause 8 RX8 (some .int)) {K52 : zS × Nat × Int32 × Int32 × Int32 → Option (Int32 × zS)} (hK52 : ∀ (S : zS) (x0 : Nat) (x3 : Int32) (x4 : Int32) (x5 : Int32), K52 (S, x0, x3, x4, x5) = some (r, T) → zWt D cy A p l e { frames := 6, cells := 0, slots := 0, locals := 142 } s m args below meth c z 0 0 0 0 (zQ D cy A T z (some (.int r))) S 8 52 [(0, .ref x0), (3, .int x3), (4, .int x4), (5, .int x5)] []) {S : zS} {x0 : Nat} {x3 : Int32} {x4 : Int32} {x5 : Int32} (h : fX8_cause_52 N K52 S x0 x3 x4 x5 = some (r, T)) : zWt D cy A p l e { frames := 6, cells := 0, slots := 0, locals := 142 } s m args below meth c z 0 0 0 0 (zQ D cy A T z (some (.int r))) S 8 52 [(0, .ref x0), (3, .int x3), (4, .int x4), (5, .int x5)] [] := by
  obtain ⟨hx, hb, hml, hown, hr, hlocks, hT⟩ := id X
  intro H locs ls hH hS hl
  unfold fX8_cause_52 at h
  refine lv_iload hx hb dX8_cause_52 (lv_at hl 3 rfl) ?_
  refine lv_iload_n hx hb dX8_cause_54 rfl (lv_at hl 1 rfl) ?_
  refine lv_icmp_gt (tgt := 169) hx hb dX8_cause_55 (by decide) (fun c => ?_) (fun c => ?_)
  · have h := (if_pos c).symm.trans h
    refine lv_bipush (v := (-2 : Int32)) hx hb dX8_cause_169 (by decide) ?_
    exact z_iret X hH hS h dX8_cause_171
  · have h := (if_neg c).symm.trans h
    refine lv_iload hx hb dX8_cause_58 (lv_at hl 2 rfl) ?_
    refine lv_iload hx hb dX8_cause_60 (lv_at hl 3 rfl) ?_
    refine lv_ishr hx hb dX8_cause_62 ?_
    refine lv_iconst (v := (1 : Int32)) hx hb dX8_cause_63 (by decide) ?_
    refine lv_iand hx hb dX8_cause_64 ?_
    refine lv_if_eq (tgt := 163) hx hb dX8_cause_65 (by decide) (fun c => ?_) (fun c => ?_)
    · have h := (if_pos c).symm.trans h
      exact wX8_cause_163 X hK52 h _ _ _ hH hS (lv_sub hl [0, 1, 2, 3] rfl)
    · have h := (if_neg c).symm.trans h
      refine lv_aload_n hx hb dX8_cause_68 rfl (lv_at hl 0 rfl) ?_
      refine lv_iload hx hb dX8_cause_69 (lv_at hl 3 rfl) ?_
      obtain ⟨u10, eu10, h⟩ := zb_some h
      obtain ⟨v12, S11, eS11, h⟩ := zb2_some h
      refine z_cV (As := [.int x5]) X hl hH hS mlX8_193 eu10 (kX8_areAlike eS11) rfl rfl (Nat.le_of_ble_eq_true rfl) ⟨rfl, rfl, Nat.le_of_ble_eq_true rfl, Nat.le_of_ble_eq_true rfl⟩ ⟨Nat.le_refl _, Nat.le_refl _⟩ dX8_cause_71 (fun H locs hH hS => ?_)
      refine lv_if_eq (tgt := 80) hx hb dX8_cause_74 (by decide) (fun c => ?_) (fun c => ?_)
      · have h := (if_pos c).symm.trans h
        refine lv_iconst (v := (1 : Int32)) hx hb dX8_cause_80 (by decide) ?_
        refine lv_istore (lv' := [(6, .int (1 : Int32)), (0, .ref x0), (3, .int x3), (4, .int x4), (5, .int x5)]) hx hb dX8_cause_81 hl (by decide) rfl (fun ls hl => ?_)
        refine lv_iconst (v := (0 : Int32)) hx hb dX8_cause_83 (by decide) ?_
        refine lv_istore (lv' := [(7, .int (0 : Int32)), (6, .int (1 : Int32)), (0, .ref x0), (3, .int x3), (4, .int x4), (5, .int x5)]) hx hb dX8_cause_84 hl (by decide) rfl (fun ls hl => ?_)
        exact uX8_cause_86 X hK52 h _ _ _ hH hS (lv_sub hl [2, 3, 4, 5, 1, 0] rfl)
      · have h := (if_neg c).symm.trans h
        refine lv_goto (tgt := 163) hx hb dX8_cause_77 (by decide) ?_
        exact wX8_cause_163 X hK52 h _ _ _ hH hS (lv_sub hl [0, 1, 2, 3] rfl)
set_option maxRecDepth 100000 in
set_option maxHeartbeats 4000000 in
theorem uX8_cause_52 {z : Nat} {N : Nat} {r : Int32} {T : zS} (X : zX D cy p s m meth c cX8_cause 8 RX8 (some .int))  {S : zS} {x0 : Nat} {x3 : Int32} {x4 : Int32} {x5 : Int32} (h : lX8_cause_52 N S x0 x3 x4 x5 = some (r, T)) : zWt D cy A p l e { frames := 6, cells := 0, slots := 0, locals := 142 } s m args below meth c z 0 0 0 0 (zQ D cy A T z (some (.int r))) S 8 52 [(0, .ref x0), (3, .int x3), (4, .int x4), (5, .int x5)] [] := by
  unfold lX8_cause_52 at h
  refine zloop_ind (P := fun y => zWt D cy A p l e { frames := 6, cells := 0, slots := 0, locals := 142 } s m args below meth c z 0 0 0 0 (zQ D cy A T z (some (.int r))) y.1 8 52 [(0, .ref y.2.1), (3, .int y.2.2.1), (4, .int y.2.2.2.1), (5, .int y.2.2.2.2)] []) ?_ N (S, x0, x3, x4, x5) h
  intro K hK y hy
  obtain ⟨S, x0, x3, x4, x5⟩ := y
  exact wX8_cause_52 X (fun S x0 x3 x4 x5 hq => hK (S, x0, x3, x4, x5) hq) hy
set_option maxRecDepth 100000 in
set_option maxHeartbeats 4000000 in
theorem wX8_cause_22 {z : Nat} {N : Nat} {r : Int32} {T : zS} (X : zX D cy p s m meth c cX8_cause 8 RX8 (some .int))  {S : zS} (h : fX8_cause_22 N S = some (r, T)) : zWt D cy A p l e { frames := 6, cells := 0, slots := 0, locals := 142 } s m args below meth c z 0 0 0 0 (zQ D cy A T z (some (.int r))) S 8 22 [] [] := by
  obtain ⟨hx, hb, hml, hown, hr, hlocks, hT⟩ := id X
  intro H locs ls hH hS hl
  unfold fX8_cause_22 at h
  refine lv_iconst (v := (-1 : Int32)) hx hb dX8_cause_22 (by decide) ?_
  exact z_iret X hH hS h dX8_cause_23
set_option maxRecDepth 100000 in
set_option maxHeartbeats 4000000 in
theorem wX8_cause_0 {z : Nat} {N : Nat} {r : Int32} {T : zS} (X : zX D cy p s m meth c cX8_cause 8 RX8 (some .int))  {S : zS} {x0 : Nat} {x1 : Int32} {x2 : Int32} {x3 : Int32} (h : fX8_cause_0 N S x0 x1 x2 x3 = some (r, T)) : zWt D cy A p l e { frames := 6, cells := 0, slots := 0, locals := 142 } s m args below meth c z 0 0 0 0 (zQ D cy A T z (some (.int r))) S 8 0 [(0, .ref x0), (1, .int x1), (2, .int x2), (3, .int x3)] [] := by
  obtain ⟨hx, hb, hml, hown, hr, hlocks, hT⟩ := id X
  intro H locs ls hH hS hl
  unfold fX8_cause_0 at h
  refine lv_iload_n hx hb dX8_cause_0 rfl (lv_at hl 1 rfl) ?_
  obtain ⟨v14, S13, eS13, h⟩ := zb2_some h
  refine z_cS (As := [.int x1]) X hl hH hS mlX8_120 (kX8_isRoom eS13) rfl rfl (Nat.le_of_ble_eq_true rfl) ⟨rfl, rfl, Nat.le_of_ble_eq_true rfl, Nat.le_of_ble_eq_true rfl⟩ ⟨Nat.le_refl _, Nat.le_refl _⟩ dX8_cause_1 (fun H locs hH hS => ?_)
  refine lv_if_eq (tgt := 22) hx hb dX8_cause_4 (by decide) (fun c => ?_) (fun c => ?_)
  · have h := (if_pos c).symm.trans h
    exact wX8_cause_22 X h _ _ _ hH hS (lv_sub hl [] rfl)
  · have h := (if_neg c).symm.trans h
    refine lv_iload_n hx hb dX8_cause_7 rfl (lv_at hl 2 rfl) ?_
    obtain ⟨v16, S15, eS15, h⟩ := zb2_some h
    refine z_cS (As := [.int x2]) X hl hH hS mlX8_120 (kX8_isRoom eS15) rfl rfl (Nat.le_of_ble_eq_true rfl) ⟨rfl, rfl, Nat.le_of_ble_eq_true rfl, Nat.le_of_ble_eq_true rfl⟩ ⟨Nat.le_refl _, Nat.le_refl _⟩ dX8_cause_8 (fun H locs hH hS => ?_)
    refine lv_if_eq (tgt := 22) hx hb dX8_cause_11 (by decide) (fun c => ?_) (fun c => ?_)
    · have h := (if_pos c).symm.trans h
      exact wX8_cause_22 X h _ _ _ hH hS (lv_sub hl [] rfl)
    · have h := (if_neg c).symm.trans h
      refine lv_aload_n hx hb dX8_cause_14 rfl (lv_at hl 0 rfl) ?_
      refine lv_iload_n hx hb dX8_cause_15 rfl (lv_at hl 3 rfl) ?_
      obtain ⟨u17, eu17, h⟩ := zb_some h
      obtain ⟨v19, S18, eS18, h⟩ := zb2_some h
      refine z_cV (As := [.int x3]) X hl hH hS mlX8_126 eu17 (kX8_isStep eS18) rfl rfl (Nat.le_of_ble_eq_true rfl) ⟨rfl, rfl, Nat.le_of_ble_eq_true rfl, Nat.le_of_ble_eq_true rfl⟩ ⟨Nat.le_refl _, Nat.le_refl _⟩ dX8_cause_16 (fun H locs hH hS => ?_)
      refine lv_if_ne (tgt := 24) hx hb dX8_cause_19 (by decide) (fun c => ?_) (fun c => ?_)
      · have h := (if_neg c).symm.trans h
        refine lv_aload_n hx hb dX8_cause_24 rfl (lv_at hl 0 rfl) ?_
        refine lv_iload_n hx hb dX8_cause_25 rfl (lv_at hl 1 rfl) ?_
        refine lv_iload_n hx hb dX8_cause_26 rfl (lv_at hl 2 rfl) ?_
        refine lv_iload_n hx hb dX8_cause_27 rfl (lv_at hl 3 rfl) ?_
        obtain ⟨u20, eu20, h⟩ := zb_some h
        obtain ⟨S21, eS21, h⟩ := zb_some h
        refine z_cV (As := [.int x1, .int x2, .int x3]) X hl hH hS mlX8_189 eu20 (kX8_both eS21) rfl rfl (Nat.le_of_ble_eq_true rfl) ⟨rfl, rfl, Nat.le_of_ble_eq_true rfl, Nat.le_of_ble_eq_true rfl⟩ ⟨Nat.le_refl _, Nat.le_refl _⟩ dX8_cause_28 (fun H locs hH hS => ?_)
        refine lv_aload_n hx hb dX8_cause_31 rfl (lv_at hl 0 rfl) ?_
        refine lv_iload_n hx hb dX8_cause_32 rfl (lv_at hl 3 rfl) ?_
        obtain ⟨u22, eu22, h⟩ := zb_some h
        obtain ⟨v24, S23, eS23, h⟩ := zb2_some h
        refine z_cV (As := [.int x3]) X hl hH hS mlX8_193 eu22 (kX8_areAlike eS23) rfl rfl (Nat.le_of_ble_eq_true rfl) ⟨rfl, rfl, Nat.le_of_ble_eq_true rfl, Nat.le_of_ble_eq_true rfl⟩ ⟨Nat.le_refl _, Nat.le_refl _⟩ dX8_cause_33 (fun H locs hH hS => ?_)
        refine lv_if_eq (tgt := 42) hx hb dX8_cause_36 (by decide) (fun c => ?_) (fun c => ?_)
        · have h := (if_pos c).symm.trans h
          refine lv_aload_n hx hb dX8_cause_42 rfl (lv_at hl 0 rfl) ?_
          refine lv_iload_n hx hb dX8_cause_43 rfl (lv_at hl 3 rfl) ?_
          obtain ⟨u25, eu25, h⟩ := zb_some h
          obtain ⟨v27, S26, eS26, h⟩ := zb2_some h
          refine z_cV (As := [.int x3]) X hl hH hS mlX8_172 eu25 (kX8_usedBy eS26) rfl rfl (Nat.le_of_ble_eq_true rfl) ⟨rfl, rfl, Nat.le_of_ble_eq_true rfl, Nat.le_of_ble_eq_true rfl⟩ ⟨Nat.le_refl _, Nat.le_refl _⟩ dX8_cause_44 (fun H locs hH hS => ?_)
          refine lv_istore (lv' := [(4, .int v27), (0, .ref x0), (1, .int x1), (2, .int x2), (3, .int x3)]) hx hb dX8_cause_47 hl (by decide) rfl (fun ls hl => ?_)
          refine lv_iconst (v := (0 : Int32)) hx hb dX8_cause_49 (by decide) ?_
          refine lv_istore (lv' := [(5, .int (0 : Int32)), (4, .int v27), (0, .ref x0), (1, .int x1), (2, .int x2), (3, .int x3)]) hx hb dX8_cause_50 hl (by decide) rfl (fun ls hl => ?_)
          exact uX8_cause_52 X h _ _ _ hH hS (lv_sub hl [2, 5, 1, 0] rfl)
        · have h := (if_neg c).symm.trans h
          refine lv_bipush (v := (-2 : Int32)) hx hb dX8_cause_39 (by decide) ?_
          exact z_iret X hH hS h dX8_cause_41
      · have h := (if_pos c).symm.trans h
        exact wX8_cause_22 X h _ _ _ hH hS (lv_sub hl [] rfl)
set_option maxRecDepth 100000 in
theorem kX8_cause {N : Nat} {r : Int32} {T : zS} {S : zS} {z : Nat} {x0 : Nat} {x1 : Int32} {x2 : Int32} {x3 : Int32} (h : fX8_cause N S x0 x1 x2 x3 = some (r, T)) : Met l yX8_cause [.code yX8_cause cX8_cause 8 (some .int)] { frames := 6, cells := 0, slots := 0, locals := 142 } (zP D cy A S z [.ref x0, .int x1, .int x2, .int x3]) (zQ D cy A T z (some (.int r))) 0 0 A := by
  refine z_met (lv := [(0, .ref x0), (1, .int x1), (2, .int x2), (3, .int x3)]) (by decide) (Nat.le_of_ble_eq_true rfl) rfl ?_
  intro p e s m below meth c X H locs ls hH hS hl
  exact wX8_cause_0 X h _ _ _ hH hS (lv_sub hl [0, 1, 2, 3] rfl)
end
