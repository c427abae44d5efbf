section
variable {D : va_G} {cy : Nat → ClassId} {A : Nat → Prop} {p : Program} {l : Launch} {e : Env} {s : State} {m : MethodId} {args : Array Value} {below : List Frame} {meth : Method} {c : Code}
set_option maxRecDepth 100000 in
set_option maxHeartbeats 4000000 in
theorem wX8_fix_138 {z : Nat} {N : Nat} {r : Int32} {T : zS} (X : zX D cy p s m meth c cX8_fix 7 RX8 (some .int)) {K41 : zS × Nat × Int32 × Int32 × Int32 × Int32 × Int32 → Option (Int32 × zS)} (hK41 : ∀ (S : zS) (x0 : Nat) (x1 : Int32) (x2 : Int32) (x3 : Int32) (x4 : Int32) (x5 : Int32), K41 (S, x0, x1, x2, x3, x4, x5) = some (r, T) → zWt D cy A p l e { frames := 5, cells := 0, slots := 0, locals := 119 } s m args below meth c z 0 0 0 0 (zQ D cy A T z (some (.int r))) S 7 41 [(0, .ref x0), (1, .int x1), (2, .int x2), (3, .int x3), (4, .int x4), (5, .int x5)] []) {S : zS} {x0 : Nat} {x1 : Int32} {x2 : Int32} {x3 : Int32} {x4 : Int32} {x5 : Int32} (h : fX8_fix_138 N K41 S x0 x1 x2 x3 x4 x5 = some (r, T)) : zWt D cy A p l e { frames := 5, cells := 0, slots := 0, locals := 119 } s m args below meth c z 0 0 0 0 (zQ D cy A T z (some (.int r))) S 7 138 [(0, .ref x0), (1, .int x1), (2, .int x2), (3, .int x3), (4, .int x4), (5, .int x5)] [] := by
  obtain ⟨hx, hb, hml, hown, hr, hlocks, hT⟩ := id X
  intro H locs ls hH hS hl
  unfold fX8_fix_138 at h
  refine lv_iinc (v := (x5 + (1 : Int32))) (lv' := [(5, .int (x5 + (1 : Int32))), (0, .ref x0), (1, .int x1), (2, .int x2), (3, .int x3), (4, .int x4)]) hx hb dX8_fix_138 hl (k := 5) rfl (z_ii (by decide) _) (by decide) rfl (fun ls hl => ?_)
  refine lv_goto (tgt := 41) hx hb dX8_fix_141 (by decide) ?_
  exact hK41 _ _ _ _ _ _ _ h _ _ _ hH hS (lv_sub hl [1, 2, 3, 4, 5, 0] rfl)
set_option maxRecDepth 100000 in
set_option maxHeartbeats 4000000 in
theorem wX8_fix_108 {z : Nat} {N : Nat} {r : Int32} {T : zS} (X : zX D cy p s m meth c cX8_fix 7 RX8 (some .int)) {K41 : zS × Nat × Int32 × Int32 × Int32 × Int32 × Int32 → Option (Int32 × zS)} (hK41 : ∀ (S : zS) (x0 : Nat) (x1 : Int32) (x2 : Int32) (x3 : Int32) (x4 : Int32) (x5 : Int32), K41 (S, x0, x1, x2, x3, x4, x5) = some (r, T) → zWt D cy A p l e { frames := 5, cells := 0, slots := 0, locals := 119 } s m args below meth c z 0 0 0 0 (zQ D cy A T z (some (.int r))) S 7 41 [(0, .ref x0), (1, .int x1), (2, .int x2), (3, .int x3), (4, .int x4), (5, .int x5)] []) {K73 : zS × Nat × Int32 × Int32 × Int32 × Int32 × Int32 × Int32 → Option (Int32 × zS)} (hK73 : ∀ (S : zS) (x0 : Nat) (x1 : Int32) (x2 : Int32) (x3 : Int32) (x4 : Int32) (x5 : Int32) (x6 : Int32), K73 (S, x0, x1, x2, x3, x4, x5, x6) = some (r, T) → zWt D cy A p l e { frames := 5, cells := 0, slots := 0, locals := 119 } s m args below meth c z 0 0 0 0 (zQ D cy A T z (some (.int r))) S 7 73 [(0, .ref x0), (1, .int x1), (2, .int x2), (3, .int x3), (4, .int x4), (5, .int x5), (6, .int x6)] []) {S : zS} {x0 : Nat} {x1 : Int32} {x2 : Int32} {x3 : Int32} {x4 : Int32} {x5 : Int32} {x6 : Int32} {y0 : Nat} {y1 : Int32} {y2 : Nat} {y3 : Int32} {y4 : Int32} (h : fX8_fix_108 N K41 K73 S x0 x1 x2 x3 x4 x5 x6 y0 y1 y2 y3 y4 = some (r, T)) : zWt D cy A p l e { frames := 5, cells := 0, slots := 0, locals := 119 } s m args below meth c z 0 0 0 0 (zQ D cy A T z (some (.int r))) S 7 108 [(0, .ref x0), (1, .int x1), (2, .int x2), (3, .int x3), (4, .int x4), (5, .int x5), (6, .int x6)] [.int y4, .int y3, .ref y2, .int y1, .ref y0] := by
  obtain ⟨hx, hb, hml, hown, hr, hlocks, hT⟩ := id X
  intro H locs ls hH hS hl
  unfold fX8_fix_108 at h
  refine lv_imul hx hb dX8_fix_108 ?_
  refine lv_iload hx hb dX8_fix_109 (lv_at hl 6 rfl) ?_
  refine lv_iadd hx hb dX8_fix_111 ?_
  obtain ⟨v1, ev1, h⟩ := zb_some h
  refine z_iald X hH ev1 dX8_fix_112 ?_
  obtain ⟨S2, eS2, h⟩ := zb_some h
  refine z_iast X hH hS eS2 dX8_fix_113 (fun H locs hH hS => ?_)
  refine lv_iinc (v := (x6 + (1 : Int32))) (lv' := [(6, .int (x6 + (1 : Int32))), (0, .ref x0), (1, .int x1), (2, .int x2), (3, .int x3), (4, .int x4), (5, .int x5)]) hx hb dX8_fix_114 hl (k := 6) rfl (z_ii (by decide) _) (by decide) rfl (fun ls hl => ?_)
  refine lv_goto (tgt := 73) hx hb dX8_fix_117 (by decide) ?_
  exact hK73 _ _ _ _ _ _ _ _ h _ _ _ hH hS (lv_sub hl [1, 2, 3, 4, 5, 6, 0] rfl)
set_option maxRecDepth 100000 in
set_option maxHeartbeats 4000000 in
theorem wX8_fix_73 {z : Nat} {N : Nat} {r : Int32} {T : zS} (X : zX D cy p s m meth c cX8_fix 7 RX8 (some .int)) {K41 : zS × Nat × Int32 × Int32 × Int32 × Int32 × Int32 → Option (Int32 × zS)} (hK41 : ∀ (S : zS) (x0 : Nat) (x1 : Int32) (x2 : Int32) (x3 : Int32) (x4 : Int32) (x5 : Int32), K41 (S, x0, x1, x2, x3, x4, x5) = some (r, T) → zWt D cy A p l e { frames := 5, cells := 0, slots := 0, locals := 119 } s m args below meth c z 0 0 0 0 (zQ D cy A T z (some (.int r))) S 7 41 [(0, .ref x0), (1, .int x1), (2, .int x2), (3, .int x3), (4, .int x4), (5, .int x5)] []) {K73 : zS × Nat × Int32 × Int32 × Int32 × Int32 × Int32 × Int32 → Option (Int32 × zS)} (hK73 : ∀ (S : zS) (x0 : Nat) (x1 : Int32) (x2 : Int32) (x3 : Int32) (x4 : Int32) (x5 : Int32) (x6 : Int32), K73 (S, x0, x1, x2, x3, x4, x5, x6) = some (r, T) → zWt D cy A p l e { frames := 5, cells := 0, slots := 0, locals := 119 } s m args below meth c z 0 0 0 0 (zQ D cy A T z (some (.int r))) S 7 73 [(0, .ref x0), (1, .int x1), (2, .int x2), (3, .int x3), (4, .int x4), (5, .int x5), (6, .int x6)] []) {S : zS} {x0 : Nat} {x1 : Int32} {x2 : Int32} {x3 : Int32} {x4 : Int32} {x5 : Int32} {x6 : Int32} (h : fX8_fix_73 N K41 K73 S x0 x1 x2 x3 x4 x5 x6 = some (r, T)) : zWt D cy A p l e { frames := 5, cells := 0, slots := 0, locals := 119 } s m args below meth c z 0 0 0 0 (zQ D cy A T z (some (.int r))) S 7 73 [(0, .ref x0), (1, .int x1), (2, .int x2), (3, .int x3), (4, .int x4), (5, .int x5), (6, .int x6)] [] := by
  obtain ⟨hx, hb, hml, hown, hr, hlocks, hT⟩ := id X
  intro H locs ls hH hS hl
  unfold fX8_fix_73 at h
  refine lv_iload hx hb dX8_fix_73 (lv_at hl 6 rfl) ?_
  refine lv_bipush (v := (8 : Int32)) hx hb dX8_fix_75 (by decide) ?_
  refine lv_icmp_ge (tgt := 120) hx hb dX8_fix_77 (by decide) (fun c => ?_) (fun c => ?_)
  · have h := (if_pos c).symm.trans h
    refine lv_aload_n hx hb dX8_fix_120 rfl (lv_at hl 0 rfl) ?_
    refine lv_iconst (v := (1 : Int32)) hx hb dX8_fix_121 (by decide) ?_
    refine lv_iload_n hx hb dX8_fix_122 rfl (lv_at hl 3 rfl) ?_
    obtain ⟨u3, eu3, h⟩ := zb_some h
    obtain ⟨S4, eS4, h⟩ := zb_some h
    refine z_cV (As := [.int (1 : Int32), .int x3]) X hl hH hS mlX8_169 eu3 (kX8_build eS4) rfl rfl (Nat.le_of_ble_eq_true rfl) ⟨rfl, rfl, Nat.le_of_ble_eq_true rfl, Nat.le_of_ble_eq_true rfl⟩ ⟨Nat.le_refl _, Nat.le_refl _⟩ dX8_fix_123 (fun H locs hH hS => ?_)
    refine lv_aload_n hx hb dX8_fix_126 rfl (lv_at hl 0 rfl) ?_
    refine lv_iload_n hx hb dX8_fix_127 rfl (lv_at hl 3 rfl) ?_
    obtain ⟨u5, eu5, h⟩ := zb_some h
    obtain ⟨v7, S6, eS6, h⟩ := zb2_some h
    refine z_cV (As := [.int x3]) X hl hH hS mlX8_193 eu5 (kX8_areAlike eS6) rfl rfl (Nat.le_of_ble_eq_true rfl) ⟨rfl, rfl, Nat.le_of_ble_eq_true rfl, Nat.le_of_ble_eq_true rfl⟩ ⟨Nat.le_refl _, Nat.le_refl _⟩ dX8_fix_128 (fun H locs hH hS => ?_)
    refine lv_if_eq (tgt := 138) hx hb dX8_fix_131 (by decide) (fun c => ?_) (fun c => ?_)
    · have h := (if_pos c).symm.trans h
      exact wX8_fix_138 X hK41 h _ _ _ hH hS (lv_sub hl [0, 1, 2, 3, 4, 5] rfl)
    · have h := (if_neg c).symm.trans h
      refine lv_iload hx hb dX8_fix_134 (lv_at hl 5 rfl) ?_
      refine lv_istore (lv' := [(4, .int x5), (0, .ref x0), (1, .int x1), (2, .int x2), (3, .int x3), (5, .int x5), (6, .int x6)]) hx hb dX8_fix_136 hl (by decide) rfl (fun ls hl => ?_)
      exact wX8_fix_138 X hK41 h _ _ _ hH hS (lv_sub hl [1, 2, 3, 4, 0, 5] rfl)
  · have h := (if_neg c).symm.trans h
    refine lv_aload_n hx hb dX8_fix_80 rfl (lv_at hl 0 rfl) ?_
    obtain ⟨v8, ev8, h⟩ := zb_some h
    refine z_getr X flX8_41 hH ev8 dX8_fix_81 ?_
    refine lv_iload hx hb dX8_fix_84 (lv_at hl 6 rfl) ?_
    refine lv_aload_n hx hb dX8_fix_86 rfl (lv_at hl 0 rfl) ?_
    obtain ⟨v9, ev9, h⟩ := zb_some h
    refine z_getr X flX8_23 hH ev9 dX8_fix_87 ?_
    refine lv_bipush (v := (8 : Int32)) hx hb dX8_fix_90 (by decide) ?_
    refine lv_iload hx hb dX8_fix_92 (lv_at hl 5 rfl) ?_
    refine lv_iload hx hb dX8_fix_94 (lv_at hl 6 rfl) ?_
    refine lv_ishr hx hb dX8_fix_96 ?_
    refine lv_iconst (v := (1 : Int32)) hx hb dX8_fix_97 (by decide) ?_
    refine lv_iand hx hb dX8_fix_98 ?_
    refine lv_iconst (v := (1 : Int32)) hx hb dX8_fix_99 (by decide) ?_
    refine lv_icmp_ne (tgt := 107) hx hb dX8_fix_100 (by decide) (fun c => ?_) (fun c => ?_)
    · have h := (if_neg c).symm.trans h
      refine lv_iload_n hx hb dX8_fix_107 rfl (lv_at hl 2 rfl) ?_
      exact wX8_fix_108 X hK41 hK73 h _ _ _ hH hS (lv_sub hl [0, 1, 2, 3, 4, 5, 6] rfl)
    · have h := (if_pos c).symm.trans h
      refine lv_iload_n hx hb dX8_fix_103 rfl (lv_at hl 1 rfl) ?_
      refine lv_goto (tgt := 108) hx hb dX8_fix_104 (by decide) ?_
      exact wX8_fix_108 X hK41 hK73 h _ _ _ hH hS (lv_sub hl [0, 1, 2, 3, 4, 5, 6] rfl)
set_option maxRecDepth 100000 in
set_option maxHeartbeats 4000000 in
theorem uX8_fix_73 {z : Nat} {N : Nat} {r : Int32} {T : zS} (X : zX D cy p s m meth c cX8_fix 7 RX8 (some .int)) {K41 : zS × Nat × Int32 × Int32 × Int32 × Int32 × Int32 → Option (Int32 × zS)} (hK41 : ∀ (S : zS) (x0 : Nat) (x1 : Int32) (x2 : Int32) (x3 : Int32) (x4 : Int32) (x5 : Int32), K41 (S, x0, x1, x2, x3, x4, x5) = some (r, T) → zWt D cy A p l e { frames := 5, cells := 0, slots := 0, locals := 119 } s m args below meth c z 0 0 0 0 (zQ D cy A T z (some (.int r))) S 7 41 [(0, .ref x0), (1, .int x1), (2, .int x2), (3, .int x3), (4, .int x4), (5, .int x5)] []) {S : zS} {x0 : Nat} {x1 : Int32} {x2 : Int32} {x3 : Int32} {x4 : Int32} {x5 : Int32} {x6 : Int32} (h : lX8_fix_73 N K41 S x0 x1 x2 x3 x4 x5 x6 = some (r, T)) : zWt D cy A p l e { frames := 5, cells := 0, slots := 0, locals := 119 } s m args below meth c z 0 0 0 0 (zQ D cy A T z (some (.int r))) S 7 73 [(0, .ref x0), (1, .int x1), (2, .int x2), (3, .int x3), (4, .int x4), (5, .int x5), (6, .int x6)] [] := by
  unfold lX8_fix_73 at h
  refine zloop_ind (P := fun y => zWt D cy A p l e { frames := 5, cells := 0, slots := 0, locals := 119 } s m args below meth c z 0 0 0 0 (zQ D cy A T z (some (.int r))) y.1 7 73 [(0, .ref y.2.1), (1, .int y.2.2.1), (2, .int y.2.2.2.1), (3, .int y.2.2.2.2.1), (4, .int y.2.2.2.2.2.1), (5, .int y.2.2.2.2.2.2.1), (6, .int y.2.2.2.2.2.2.2)] []) ?_ N (S, x0, x1, x2, x3, x4, x5, x6) h
  intro K hK y hy
  obtain ⟨S, x0, x1, x2, x3, x4, x5, x6⟩ := y
  exact wX8_fix_73 X hK41 (fun S x0 x1 x2 x3 x4 x5 x6 hq => hK (S, x0, x1, x2, x3, x4, x5, x6) hq) hy
set_option maxRecDepth 100000 in
set_option maxHeartbeats 4000000 in
theorem wX8_fix_70 {z : Nat} {N : Nat} {r : Int32} {T : zS} (X : zX D cy p s m meth c cX8_fix 7 RX8 (some .int)) {K41 : zS × Nat × Int32 × Int32 × Int32 × Int32 × Int32 → Option (Int32 × zS)} (hK41 : ∀ (S : zS) (x0 : Nat) (x1 : Int32) (x2 : Int32) (x3 : Int32) (x4 : Int32) (x5 : Int32), K41 (S, x0, x1, x2, x3, x4, x5) = some (r, T) → zWt D cy A p l e { frames := 5, cells := 0, slots := 0, locals := 119 } s m args below meth c z 0 0 0 0 (zQ D cy A T z (some (.int r))) S 7 41 [(0, .ref x0), (1, .int x1), (2, .int x2), (3, .int x3), (4, .int x4), (5, .int x5)] []) {S : zS} {x0 : Nat} {x1 : Int32} {x2 : Int32} {x3 : Int32} {x4 : Int32} {x5 : Int32} (h : fX8_fix_70 N K41 S x0 x1 x2 x3 x4 x5 = some (r, T)) : zWt D cy A p l e { frames := 5, cells := 0, slots := 0, locals := 119 } s m args below meth c z 0 0 0 0 (zQ D cy A T z (some (.int r))) S 7 70 [(0, .ref x0), (1, .int x1), (2, .int x2), (3, .int x3), (4, .int x4), (5, .int x5)] [] := by
  obtain ⟨hx, hb, hml, hown, hr, hlocks, hT⟩ := id X
  intro H locs ls hH hS hl
  unfold fX8_fix_70 at h
  refine lv_iconst (v := (0 : Int32)) hx hb dX8_fix_70 (by decide) ?_
  refine lv_istore (lv' := [(6, .int (0 : Int32)), (0, .ref x0), (1, .int x1), (2, .int x2), (3, .int x3), (4, .int x4), (5, .int x5)]) hx hb dX8_fix_71 hl (by decide) rfl (fun ls hl => ?_)
  exact uX8_fix_73 X hK41 h _ _ _ hH hS (lv_sub hl [1, 2, 3, 4, 5, 6, 0] rfl)
set_option maxRecDepth 100000 in
set_option maxHeartbeats 4000000 in
theorem wX8_fix_41 {z : Nat} {N : Nat} {r : Int32} {T : zS} (X : zX D cy p s m meth c cX8_fix 7 RX8 (some .int)) {K41 : zS × Nat × Int32 × Int32 × Int32 × Int32 × Int32 → Option (Int32 × zS)} (hK41 : ∀ (S : zS) (x0 : Nat) (x1 : Int32) (x2 : Int32) (x3 : Int32) (x4 : Int32) (x5 : Int32), K41 (S, x0, x1, x2, x3, x4, x5) = some (r, T) → zWt D cy A p l e { frames := 5, cells := 0, slots := 0, locals := 119 } s m args below meth c z 0 0 0 0 (zQ D cy A T z (some (.int r))) S 7 41 [(0, .ref x0), (1, .int x1), (2, .int x2), (3, .int x3), (4, .int x4), (5, .int x5)] []) {S : zS} {x0 : Nat} {x1 : Int32} {x2 : Int32} {x3 : Int32} {x4 : Int32} {x5 : Int32} (h : fX8_fix_41 N K41 S x0 x1 x2 x3 x4 x5 = some (r, T)) : zWt D cy A p l e { frames := 5, cells := 0, slots := 0, locals := 119 } s m args below meth c z 0 0 0 0 (zQ D cy A T z (some (.int r))) S 7 41 [(0, .ref x0), (1, .int x1), (2, .int x2), (3, .int x3), (4, .int x4), (5, .int x5)] [] := by
  obtain ⟨hx, hb, hml, hown, hr, hlocks, hT⟩ := id X
  intro H locs ls hH hS hl
  unfold fX8_fix_41 at h
  refine lv_iload hx hb dX8_fix_41 (lv_at hl 5 rfl) ?_
  refine lv_sipush (v := (256 : Int32)) hx hb dX8_fix_43 (by decide) ?_
  refine lv_icmp_ge (tgt := 144) hx hb dX8_fix_46 (by decide) (fun c => ?_) (fun c => ?_)
  · have h := (if_pos c).symm.trans h
    refine lv_iload hx hb dX8_fix_144 (lv_at hl 4 rfl) ?_
    exact z_iret X hH hS h dX8_fix_146
  · have h := (if_neg c).symm.trans h
    refine lv_iload hx hb dX8_fix_49 (lv_at hl 4 rfl) ?_
    refine lv_if_lt (tgt := 70) hx hb dX8_fix_51 (by decide) (fun c => ?_) (fun c => ?_)
    · have h := (if_pos c).symm.trans h
      exact wX8_fix_70 X hK41 h _ _ _ hH hS (lv_sub hl [0, 1, 2, 3, 4, 5] rfl)
    · have h := (if_neg c).symm.trans h
      refine lv_iload hx hb dX8_fix_54 (lv_at hl 5 rfl) ?_
      obtain ⟨v11, S10, eS10, h⟩ := zb2_some h
      refine z_cS (As := [.int x5]) X hl hH hS mlX8_184 (kX8_bits eS10) rfl rfl (Nat.le_of_ble_eq_true rfl) ⟨rfl, rfl, Nat.le_of_ble_eq_true rfl, Nat.le_of_ble_eq_true rfl⟩ ⟨Nat.le_refl _, Nat.le_refl _⟩ dX8_fix_56 (fun H locs hH hS => ?_)
      refine lv_iload hx hb dX8_fix_59 (lv_at hl 4 rfl) ?_
      obtain ⟨v13, S12, eS12, h⟩ := zb2_some h
      refine z_cS (As := [.int x4]) X hl hH hS mlX8_184 (kX8_bits eS12) rfl rfl (Nat.le_of_ble_eq_true rfl) ⟨rfl, rfl, Nat.le_of_ble_eq_true rfl, Nat.le_of_ble_eq_true rfl⟩ ⟨Nat.le_refl _, Nat.le_refl _⟩ dX8_fix_61 (fun H locs hH hS => ?_)
      refine lv_icmp_lt (tgt := 70) hx hb dX8_fix_64 (by decide) (fun c => ?_) (fun c => ?_)
      · have h := (if_pos c).symm.trans h
        exact wX8_fix_70 X hK41 h _ _ _ hH hS (lv_sub hl [0, 1, 2, 3, 4, 5] rfl)
      · have h := (if_neg c).symm.trans h
        refine lv_goto (tgt := 138) hx hb dX8_fix_67 (by decide) ?_
        exact wX8_fix_138 X hK41 h _ _ _ hH hS (lv_sub hl [0, 1, 2, 3, 4, 5] rfl)
set_option maxRecDepth 100000 in
set_option maxHeartbeats 4000000 in
theorem uX8_fix_41 {z : Nat} {N : Nat} {r : Int32} {T : zS} (X : zX D cy p s m meth c cX8_fix 7 RX8 (some .int))  {S : zS} {x0 : Nat} {x1 : Int32} {x2 : Int32} {x3 : Int32} {x4 : Int32} {x5 : Int32} (h : lX8_fix_41 N S x0 x1 x2 x3 x4 x5 = some (r, T)) : zWt D cy A p l e { frames := 5, cells := 0, slots := 0, locals := 119 } s m args below meth c z 0 0 0 0 (zQ D cy A T z (some (.int r))) S 7 41 [(0, .ref x0), (1, .int x1), (2, .int x2), (3, .int x3), (4, .int x4), (5, .int x5)] [] := by
  unfold lX8_fix_41 at h
  refine zloop_ind (P := fun y => zWt D cy A p l e { frames := 5, cells := 0, slots := 0, locals := 119 } s m args below meth c z 0 0 0 0 (zQ D cy A T z (some (.int r))) y.1 7 41 [(0, .ref y.2.1), (1, .int y.2.2.1), (2, .int y.2.2.2.1), (3, .int y.2.2.2.2.1), (4, .int y.2.2.2.2.2.1), (5, .int y.2.2.2.2.2.2)] []) ?_ N (S, x0, x1, x2, x3, x4, x5) h
  intro K hK y hy
  obtain ⟨S, x0, x1, x2, x3, x4, x5⟩ := y
  exact wX8_fix_41 X (fun S x0 x1 x2 x3 x4 x5 hq => hK (S, x0, x1, x2, x3, x4, x5) hq) hy
set_option maxRecDepth 100000 in
set_option maxHeartbeats 4000000 in
theorem wX8_fix_22 {z : Nat} {N : Nat} {r : Int32} {T : zS} (X : zX D cy p s m meth c cX8_fix 7 RX8 (some .int))  {S : zS} (h : fX8_fix_22 N S = some (r, T)) : zWt D cy A p l e { frames := 5, cells := 0, slots := 0, locals := 119 } s m args below meth c z 0 0 0 0 (zQ D cy A T z (some (.int r))) S 7 22 [] [] := by
  obtain ⟨hx, hb, hml, hown, hr, hlocks, hT⟩ := id X
  intro H locs ls hH hS hl
  unfold fX8_fix_22 at h
  refine lv_iconst (v := (-1 : Int32)) hx hb dX8_fix_22 (by decide) ?_
  exact z_iret X hH hS h dX8_fix_23
set_option maxRecDepth 100000 in
set_option maxHeartbeats 4000000 in
theorem wX8_fix_0 {z : Nat} {N : Nat} {r : Int32} {T : zS} (X : zX D cy p s m meth c cX8_fix 7 RX8 (some .int))  {S : zS} {x0 : Nat} {x1 : Int32} {x2 : Int32} {x3 : Int32} (h : fX8_fix_0 N S x0 x1 x2 x3 = some (r, T)) : zWt D cy A p l e { frames := 5, cells := 0, slots := 0, locals := 119 } s m args below meth c z 0 0 0 0 (zQ D cy A T z (some (.int r))) S 7 0 [(0, .ref x0), (1, .int x1), (2, .int x2), (3, .int x3)] [] := by
  obtain ⟨hx, hb, hml, hown, hr, hlocks, hT⟩ := id X
  intro H locs ls hH hS hl
  unfold fX8_fix_0 at h
  refine lv_iload_n hx hb dX8_fix_0 rfl (lv_at hl 1 rfl) ?_
  obtain ⟨v15, S14, eS14, h⟩ := zb2_some h
  refine z_cS (As := [.int x1]) X hl hH hS mlX8_120 (kX8_isRoom eS14) rfl rfl (Nat.le_of_ble_eq_true rfl) ⟨rfl, rfl, Nat.le_of_ble_eq_true rfl, Nat.le_of_ble_eq_true rfl⟩ ⟨Nat.le_refl _, Nat.le_refl _⟩ dX8_fix_1 (fun H locs hH hS => ?_)
  refine lv_if_eq (tgt := 22) hx hb dX8_fix_4 (by decide) (fun c => ?_) (fun c => ?_)
  · have h := (if_pos c).symm.trans h
    exact wX8_fix_22 X h _ _ _ hH hS (lv_sub hl [] rfl)
  · have h := (if_neg c).symm.trans h
    refine lv_iload_n hx hb dX8_fix_7 rfl (lv_at hl 2 rfl) ?_
    obtain ⟨v17, S16, eS16, h⟩ := zb2_some h
    refine z_cS (As := [.int x2]) X hl hH hS mlX8_120 (kX8_isRoom eS16) rfl rfl (Nat.le_of_ble_eq_true rfl) ⟨rfl, rfl, Nat.le_of_ble_eq_true rfl, Nat.le_of_ble_eq_true rfl⟩ ⟨Nat.le_refl _, Nat.le_refl _⟩ dX8_fix_8 (fun H locs hH hS => ?_)
    refine lv_if_eq (tgt := 22) hx hb dX8_fix_11 (by decide) (fun c => ?_) (fun c => ?_)
    · have h := (if_pos c).symm.trans h
      exact wX8_fix_22 X h _ _ _ hH hS (lv_sub hl [] rfl)
    · have h := (if_neg c).symm.trans h
      refine lv_aload_n hx hb dX8_fix_14 rfl (lv_at hl 0 rfl) ?_
      refine lv_iload_n hx hb dX8_fix_15 rfl (lv_at hl 3 rfl) ?_
      obtain ⟨u18, eu18, h⟩ := zb_some h
      obtain ⟨v20, S19, eS19, h⟩ := zb2_some h
      refine z_cV (As := [.int x3]) X hl hH hS mlX8_126 eu18 (kX8_isStep eS19) rfl rfl (Nat.le_of_ble_eq_true rfl) ⟨rfl, rfl, Nat.le_of_ble_eq_true rfl, Nat.le_of_ble_eq_true rfl⟩ ⟨Nat.le_refl _, Nat.le_refl _⟩ dX8_fix_16 (fun H locs hH hS => ?_)
      refine lv_if_ne (tgt := 24) hx hb dX8_fix_19 (by decide) (fun c => ?_) (fun c => ?_)
      · have h := (if_neg c).symm.trans h
        refine lv_aload_n hx hb dX8_fix_24 rfl (lv_at hl 0 rfl) ?_
        refine lv_iload_n hx hb dX8_fix_25 rfl (lv_at hl 1 rfl) ?_
        obtain ⟨u21, eu21, h⟩ := zb_some h
        obtain ⟨S22, eS22, h⟩ := zb_some h
        refine z_cV (As := [.int x1]) X hl hH hS mlX8_166 eu21 (kX8_take eS22) rfl rfl (Nat.le_of_ble_eq_true rfl) ⟨rfl, rfl, Nat.le_of_ble_eq_true rfl, Nat.le_of_ble_eq_true rfl⟩ ⟨Nat.le_refl _, Nat.le_refl _⟩ dX8_fix_26 (fun H locs hH hS => ?_)
        refine lv_aload_n hx hb dX8_fix_29 rfl (lv_at hl 0 rfl) ?_
        refine lv_iconst (v := (0 : Int32)) hx hb dX8_fix_30 (by decide) ?_
        refine lv_iload_n hx hb dX8_fix_31 rfl (lv_at hl 3 rfl) ?_
        obtain ⟨u23, eu23, h⟩ := zb_some h
        obtain ⟨S24, eS24, h⟩ := zb_some h
        refine z_cV (As := [.int (0 : Int32), .int x3]) X hl hH hS mlX8_169 eu23 (kX8_build eS24) rfl rfl (Nat.le_of_ble_eq_true rfl) ⟨rfl, rfl, Nat.le_of_ble_eq_true rfl, Nat.le_of_ble_eq_true rfl⟩ ⟨Nat.le_refl _, Nat.le_refl _⟩ dX8_fix_32 (fun H locs hH hS => ?_)
        refine lv_iconst (v := (-1 : Int32)) hx hb dX8_fix_35 (by decide) ?_
        refine lv_istore (lv' := [(4, .int (-1 : Int32)), (0, .ref x0), (1, .int x1), (2, .int x2), (3, .int x3)]) hx hb dX8_fix_36 hl (by decide) rfl (fun ls hl => ?_)
        refine lv_iconst (v := (0 : Int32)) hx hb dX8_fix_38 (by decide) ?_
        refine lv_istore (lv' := [(5, .int (0 : Int32)), (4, .int (-1 : Int32)), (0, .ref x0), (1, .int x1), (2, .int x2), (3, .int x3)]) hx hb dX8_fix_39 hl (by decide) rfl (fun ls hl => ?_)
        exact uX8_fix_41 X h _ _ _ hH hS (lv_sub hl [2, 3, 4, 5, 1, 0] rfl)
      · have h := (if_pos c).symm.trans h
        exact wX8_fix_22 X h _ _ _ hH hS (lv_sub hl [] rfl)
set_option maxRecDepth 100000 in
theorem kX8_fix {N : Nat} {r : Int32} {T : zS} {S : zS} {z : Nat} {x0 : Nat} {x1 : Int32} {x2 : Int32} {x3 : Int32} (h : fX8_fix N S x0 x1 x2 x3 = some (r, T)) : Met l yX8_fix [.code yX8_fix cX8_fix 7 (some .int)] { frames := 5, cells := 0, slots := 0, locals := 119 } (zP D cy A S z [.ref x0, .int x1, .int x2, .int x3]) (zQ D cy A T z (some (.int r))) 0 0 A := by
  refine z_met (lv := [(0, .ref x0), (1, .int x1), (2, .int x2), (3, .int x3)]) (by decide) (Nat.le_of_ble_eq_true rfl) rfl ?_
  intro p e s m below meth c X H locs ls hH hS hl
  exact wX8_fix_0 X h _ _ _ hH hS (lv_sub hl [0, 1, 2, 3] rfl)
set_option maxRecDepth 100000 in
set_option maxHeartbeats 4000000 in
theorem wX8_breaking_14 {z : Nat} {N : Nat} {r : Int32} {T : zS} (X : zX D cy p s m meth c cX8_breaking 6 RX8 (some .int)) {K14 : zS × Nat × Int32 × Int32 × Int32 × Int32 → Option (Int32 × zS)} (hK14 : ∀ (S : zS) (x0 : Nat) (x2 : Int32) (x3 : Int32) (x4 : Int32) (x5 : Int32), K14 (S, x0, x2, x3, x4, x5) = some (r, T) → zWt D cy A p l e { frames := 5, cells := 0, slots := 0, locals := 119 } s m args below meth c z 0 0 0 0 (zQ D cy A T z (some (.int r))) S 6 14 [(0, .ref x0), (2, .int x2), (3, .int x3), (4, .int x4), (5, .int x5)] []) {S : zS} {x0 : Nat} {x2 : Int32} {x3 : Int32} {x4 : Int32} {x5 : Int32} (h : fX8_breaking_14 N K14 S x0 x2 x3 x4 x5 = some (r, T)) : zWt D cy A p l e { frames := 5, cells := 0, slots := 0, locals := 119 } s m args below meth c z 0 0 0 0 (zQ D cy A T z (some (.int r))) S 6 14 [(0, .ref x0), (2, .int x2), (3, .int x3), (4, .int x4), (5, .int x5)] [] := by
  obtain ⟨hx, hb, hml, hown, hr, hlocks, hT⟩ := id X
  intro H locs ls hH hS hl
  unfold fX8_breaking_14 at h
  refine lv_iload hx hb dX8_breaking_14 (lv_at hl 4 rfl) ?_
  refine lv_iload hx hb dX8_breaking_16 (lv_at hl 3 rfl) ?_
  refine lv_icmp_gt (tgt := 52) hx hb dX8_breaking_18 (by decide) (fun c => ?_) (fun c => ?_)
  · have h := (if_pos c).symm.trans h
    refine lv_bipush (v := (-2 : Int32)) hx hb dX8_breaking_52 (by decide) ?_
    exact z_iret X hH hS h dX8_breaking_54
  · have h := (if_neg c).symm.trans h
    refine lv_aload_n hx hb dX8_breaking_21 rfl (lv_at hl 0 rfl) ?_
    obtain ⟨v1, ev1, h⟩ := zb_some h
    refine z_getr X flX8_41 hH ev1 dX8_breaking_22 ?_
    refine lv_iload_n hx hb dX8_breaking_25 rfl (lv_at hl 2 rfl) ?_
    refine lv_iload hx hb dX8_breaking_26 (lv_at hl 4 rfl) ?_
    obtain ⟨S2, eS2, h⟩ := zb_some h
    refine z_iast X hH hS eS2 dX8_breaking_28 (fun H locs hH hS => ?_)
    refine lv_aload_n hx hb dX8_breaking_29 rfl (lv_at hl 0 rfl) ?_
    refine lv_iconst (v := (1 : Int32)) hx hb dX8_breaking_30 (by decide) ?_
    refine lv_iload_n hx hb dX8_breaking_31 rfl (lv_at hl 1 rfl) ?_
    obtain ⟨u3, eu3, h⟩ := zb_some h
    obtain ⟨S4, eS4, h⟩ := zb_some h
    refine z_cV (As := [.int (1 : Int32), .int x2]) X hl hH hS mlX8_169 eu3 (kX8_build eS4) rfl rfl (Nat.le_of_ble_eq_true rfl) ⟨rfl, rfl, Nat.le_of_ble_eq_true rfl, Nat.le_of_ble_eq_true rfl⟩ ⟨Nat.le_refl _, Nat.le_refl _⟩ dX8_breaking_32 (fun H locs hH hS => ?_)
    refine lv_aload_n hx hb dX8_breaking_35 rfl (lv_at hl 0 rfl) ?_
    refine lv_iload_n hx hb dX8_breaking_36 rfl (lv_at hl 1 rfl) ?_
    obtain ⟨u5, eu5, h⟩ := zb_some h
    obtain ⟨v7, S6, eS6, h⟩ := zb2_some h
    refine z_cV (As := [.int x2]) X hl hH hS mlX8_193 eu5 (kX8_areAlike eS6) rfl rfl (Nat.le_of_ble_eq_true rfl) ⟨rfl, rfl, Nat.le_of_ble_eq_true rfl, Nat.le_of_ble_eq_true rfl⟩ ⟨Nat.le_refl _, Nat.le_refl _⟩ dX8_breaking_37 (fun H locs hH hS => ?_)
    refine lv_if_ne (tgt := 46) hx hb dX8_breaking_40 (by decide) (fun c => ?_) (fun c => ?_)
    · have h := (if_neg c).symm.trans h
      refine lv_iinc (v := (x5 + (1 : Int32))) (lv' := [(5, .int (x5 + (1 : Int32))), (0, .ref x0), (2, .int x2), (3, .int x3), (4, .int x4)]) hx hb dX8_breaking_46 hl (k := 4) rfl (z_ii (by decide) _) (by decide) rfl (fun ls hl => ?_)
      refine lv_goto (tgt := 14) hx hb dX8_breaking_49 (by decide) ?_
      exact hK14 _ _ _ _ _ _ h _ _ _ hH hS (lv_sub hl [1, 2, 3, 4, 0] rfl)
    · have h := (if_pos c).symm.trans h
      refine lv_iload hx hb dX8_breaking_43 (lv_at hl 4 rfl) ?_
      exact z_iret X hH hS h dX8_breaking_45
set_option maxRecDepth 100000 in
set_option maxHeartbeats 4000000 in
theorem uX8_breaking_14 {z : Nat} {N : Nat} {r : Int32} {T : zS} (X : zX D cy p s m meth c cX8_breaking 6 RX8 (some .int))  {S : zS} {x0 : Nat} {x2 : Int32} {x3 : Int32} {x4 : Int32} {x5 : Int32} (h : lX8_breaking_14 N S x0 x2 x3 x4 x5 = some (r, T)) : zWt D cy A p l e { frames := 5, cells := 0, slots := 0, locals := 119 } s m args below meth c z 0 0 0 0 (zQ D cy A T z (some (.int r))) S 6 14 [(0, .ref x0), (2, .int x2), (3, .int x3), (4, .int x4), (5, .int x5)] [] := by
  unfold lX8_breaking_14 at h
  refine zloop_ind (P := fun y => zWt D cy A p l e { frames := 5, cells := 0, slots := 0, locals := 119 } s m args below meth c z 0 0 0 0 (zQ D cy A T z (some (.int r))) y.1 6 14 [(0, .ref y.2.1), (2, .int y.2.2.1), (3, .int y.2.2.2.1), (4, .int y.2.2.2.2.1), (5, .int y.2.2.2.2.2)] []) ?_ N (S, x0, x2, x3, x4, x5) h
  intro K hK y hy
  obtain ⟨S, x0, x2, x3, x4, x5⟩ := y
  exact wX8_breaking_14 X (fun S x0 x2 x3 x4 x5 hq => hK (S, x0, x2, x3, x4, x5) hq) hy
set_option maxRecDepth 100000 in
set_option maxHeartbeats 4000000 in
theorem wX8_breaking_0 {z : Nat} {N : Nat} {r : Int32} {T : zS} (X : zX D cy p s m meth c cX8_breaking 6 RX8 (some .int))  {S : zS} {x0 : Nat} {x1 : Int32} {x2 : Int32} {x3 : Int32} {x4 : Int32} (h : fX8_breaking_0 N S x0 x1 x2 x3 x4 = some (r, T)) : zWt D cy A p l e { frames := 5, cells := 0, slots := 0, locals := 119 } s m args below meth c z 0 0 0 0 (zQ D cy A T z (some (.int r))) S 6 0 [(0, .ref x0), (1, .int x1), (2, .int x2), (3, .int x3), (4, .int x4)] [] := by
  obtain ⟨hx, hb, hml, hown, hr, hlocks, hT⟩ := id X
  intro H locs ls hH hS hl
  unfold fX8_breaking_0 at h
  refine lv_aload_n hx hb dX8_breaking_0 rfl (lv_at hl 0 rfl) ?_
  refine lv_iload_n hx hb dX8_breaking_1 rfl (lv_at hl 1 rfl) ?_
  obtain ⟨u8, eu8, h⟩ := zb_some h
  obtain ⟨S9, eS9, h⟩ := zb_some h
  refine z_cV (As := [.int x1]) X hl hH hS mlX8_166 eu8 (kX8_take eS9) rfl rfl (Nat.le_of_ble_eq_true rfl) ⟨rfl, rfl, Nat.le_of_ble_eq_true rfl, Nat.le_of_ble_eq_true rfl⟩ ⟨Nat.le_refl _, Nat.le_refl _⟩ dX8_breaking_2 (fun H locs hH hS => ?_)
  refine lv_aload_n hx hb dX8_breaking_5 rfl (lv_at hl 0 rfl) ?_
  refine lv_iconst (v := (0 : Int32)) hx hb dX8_breaking_6 (by decide) ?_
  refine lv_iload_n hx hb dX8_breaking_7 rfl (lv_at hl 2 rfl) ?_
  obtain ⟨u10, eu10, h⟩ := zb_some h
  obtain ⟨S11, eS11, h⟩ := zb_some h
  refine z_cV (As := [.int (0 : Int32), .int x2]) X hl hH hS mlX8_169 eu10 (kX8_build eS11) rfl rfl (Nat.le_of_ble_eq_true rfl) ⟨rfl, rfl, Nat.le_of_ble_eq_true rfl, Nat.le_of_ble_eq_true rfl⟩ ⟨Nat.le_refl _, Nat.le_refl _⟩ dX8_breaking_8 (fun H locs hH hS => ?_)
  refine lv_iconst (v := (0 : Int32)) hx hb dX8_breaking_11 (by decide) ?_
  refine lv_istore (lv' := [(5, .int (0 : Int32)), (0, .ref x0), (1, .int x1), (2, .int x2), (3, .int x3), (4, .int x4)]) hx hb dX8_breaking_12 hl (by decide) rfl (fun ls hl => ?_)
  exact uX8_breaking_14 X h _ _ _ hH hS (lv_sub hl [1, 3, 4, 5, 0] rfl)
set_option maxRecDepth 100000 in
theorem kX8_breaking {N : Nat} {r : Int32} {T : zS} {S : zS} {z : Nat} {x0 : Nat} {x1 : Int32} {x2 : Int32} {x3 : Int32} {x4 : Int32} (h : fX8_breaking N S x0 x1 x2 x3 x4 = some (r, T)) : Met l yX8_breaking [.code yX8_breaking cX8_breaking 6 (some .int)] { frames := 5, cells := 0, slots := 0, locals := 119 } (zP D cy A S z [.ref x0, .int x1, .int x2, .int x3, .int x4]) (zQ D cy A T z (some (.int r))) 0 0 A := by
  refine z_met (lv := [(0, .ref x0), (1, .int x1), (2, .int x2), (3, .int x3), (4, .int x4)]) (by decide) (Nat.le_of_ble_eq_true rfl) rfl ?_
  intro p e s m below meth c X H locs ls hH hS hl
  exact wX8_breaking_0 X h _ _ _ hH hS (lv_sub hl [0, 1, 2, 3, 4] rfl)
set_option maxRecDepth 100000 in
set_option maxHeartbeats 4000000 in
theorem wX8_stable_57 {z : Nat} {N : Nat} {r : Int32} {T : zS} (X : zX D cy p s m meth c cX8_stable 5 RX8 (some .int))  {S : zS} {y0 : Int32} (h : fX8_stable_57 N S y0 = some (r, T)) : zWt D cy A p l e { frames := 6, cells := 0, slots := 0, locals := 144 } s m args below meth c z 0 0 0 0 (zQ D cy A T z (some (.int r))) S 5 57 [] [.int y0] := by
  obtain ⟨hx, hb, hml, hown, hr, hlocks, hT⟩ := id X
  intro H locs ls hH hS hl
  unfold fX8_stable_57 at h
  exact z_iret X hH hS h dX8_stable_57
set_option maxRecDepth 100000 in
set_option maxHeartbeats 4000000 in
theorem wX8_stable_34 {z : Nat} {N : Nat} {r : Int32} {T : zS} (X : zX D cy p s m meth c cX8_stable 5 RX8 (some .int))  {S : zS} (h : fX8_stable_34 N S = some (r, T)) : zWt D cy A p l e { frames := 6, cells := 0, slots := 0, locals := 144 } s m args below meth c z 0 0 0 0 (zQ D cy A T z (some (.int r))) S 5 34 [] [] := by
  obtain ⟨hx, hb, hml, hown, hr, hlocks, hT⟩ := id X
  intro H locs ls hH hS hl
  unfold fX8_stable_34 at h
  refine lv_iconst (v := (-1 : Int32)) hx hb dX8_stable_34 (by decide) ?_
  refine lv_goto (tgt := 57) hx hb dX8_stable_35 (by decide) ?_
  exact wX8_stable_57 X h _ _ _ hH hS (lv_sub hl [] rfl)
set_option maxRecDepth 100000 in
set_option maxHeartbeats 4000000 in
theorem wX8_stable_0 {z : Nat} {N : Nat} {r : Int32} {T : zS} (X : zX D cy p s m meth c cX8_stable 5 RX8 (some .int))  {S : zS} {x0 : Nat} {x1 : Int32} {x2 : Int32} {x3 : Int32} {x4 : Int32} (h : fX8_stable_0 N S x0 x1 x2 x3 x4 = some (r, T)) : zWt D cy A p l e { frames := 6, cells := 0, slots := 0, locals := 144 } s m args below meth c z 0 0 0 0 (zQ D cy A T z (some (.int r))) S 5 0 [(0, .ref x0), (1, .int x1), (2, .int x2), (3, .int x3), (4, .int x4)] [] := by
  obtain ⟨hx, hb, hml, hown, hr, hlocks, hT⟩ := id X
  intro H locs ls hH hS hl
  unfold fX8_stable_0 at h
  refine lv_iload_n hx hb dX8_stable_0 rfl (lv_at hl 1 rfl) ?_
  obtain ⟨v2, S1, eS1, h⟩ := zb2_some h
  refine z_cS (As := [.int x1]) X hl hH hS mlX8_120 (kX8_isRoom eS1) rfl rfl (Nat.le_of_ble_eq_true rfl) ⟨rfl, rfl, Nat.le_of_ble_eq_true rfl, Nat.le_of_ble_eq_true rfl⟩ ⟨Nat.le_refl _, Nat.le_refl _⟩ dX8_stable_1 (fun H locs hH hS => ?_)
  refine lv_if_eq (tgt := 34) hx hb dX8_stable_4 (by decide) (fun c => ?_) (fun c => ?_)
  · have h := (if_pos c).symm.trans h
    exact wX8_stable_34 X h _ _ _ hH hS (lv_sub hl [] rfl)
  · have h := (if_neg c).symm.trans h
    refine lv_aload_n hx hb dX8_stable_7 rfl (lv_at hl 0 rfl) ?_
    refine lv_iload_n hx hb dX8_stable_8 rfl (lv_at hl 2 rfl) ?_
    obtain ⟨u3, eu3, h⟩ := zb_some h
    obtain ⟨v5, S4, eS4, h⟩ := zb2_some h
    refine z_cV (As := [.int x2]) X hl hH hS mlX8_126 eu3 (kX8_isStep eS4) rfl rfl (Nat.le_of_ble_eq_true rfl) ⟨rfl, rfl, Nat.le_of_ble_eq_true rfl, Nat.le_of_ble_eq_true rfl⟩ ⟨Nat.le_refl _, Nat.le_refl _⟩ dX8_stable_9 (fun H locs hH hS => ?_)
    refine lv_if_eq (tgt := 34) hx hb dX8_stable_12 (by decide) (fun c => ?_) (fun c => ?_)
    · have h := (if_pos c).symm.trans h
      exact wX8_stable_34 X h _ _ _ hH hS (lv_sub hl [] rfl)
    · have h := (if_neg c).symm.trans h
      refine lv_iload_n hx hb dX8_stable_15 rfl (lv_at hl 3 rfl) ?_
      obtain ⟨v7, S6, eS6, h⟩ := zb2_some h
      refine z_cS (As := [.int x3]) X hl hH hS mlX8_123 (kX8_isWord eS6) rfl rfl (Nat.le_of_ble_eq_true rfl) ⟨rfl, rfl, Nat.le_of_ble_eq_true rfl, Nat.le_of_ble_eq_true rfl⟩ ⟨Nat.le_refl _, Nat.le_refl _⟩ dX8_stable_16 (fun H locs hH hS => ?_)
      refine lv_if_eq (tgt := 34) hx hb dX8_stable_19 (by decide) (fun c => ?_) (fun c => ?_)
      · have h := (if_pos c).symm.trans h
        exact wX8_stable_34 X h _ _ _ hH hS (lv_sub hl [] rfl)
      · have h := (if_neg c).symm.trans h
        refine lv_iload hx hb dX8_stable_22 (lv_at hl 4 rfl) ?_
        refine lv_iconst (v := (0 : Int32)) hx hb dX8_stable_24 (by decide) ?_
        refine lv_sipush (v := (255 : Int32)) hx hb dX8_stable_25 (by decide) ?_
        obtain ⟨v9, S8, eS8, h⟩ := zb2_some h
        refine z_cS (As := [.int x4, .int (0 : Int32), .int (255 : Int32)]) X hl hH hS mlX8_99 (kX8_in eS8) rfl rfl (Nat.le_of_ble_eq_true rfl) ⟨rfl, rfl, Nat.le_of_ble_eq_true rfl, Nat.le_of_ble_eq_true rfl⟩ ⟨Nat.le_refl _, Nat.le_refl _⟩ dX8_stable_28 (fun H locs hH hS => ?_)
        refine lv_if_ne (tgt := 38) hx hb dX8_stable_31 (by decide) (fun c => ?_) (fun c => ?_)
        · have h := (if_neg c).symm.trans h
          refine lv_aload_n hx hb dX8_stable_38 rfl (lv_at hl 0 rfl) ?_
          refine lv_iload_n hx hb dX8_stable_39 rfl (lv_at hl 1 rfl) ?_
          refine lv_iload_n hx hb dX8_stable_40 rfl (lv_at hl 2 rfl) ?_
          refine lv_iload_n hx hb dX8_stable_41 rfl (lv_at hl 3 rfl) ?_
          refine lv_iload hx hb dX8_stable_42 (lv_at hl 4 rfl) ?_
          obtain ⟨u10, eu10, h⟩ := zb_some h
          obtain ⟨v12, S11, eS11, h⟩ := zb2_some h
          refine z_cV (As := [.int x1, .int x2, .int x3, .int x4]) X hl hH hS mlX8_211 eu10 (kX8_breaking eS11) rfl rfl (Nat.le_of_ble_eq_true rfl) ⟨rfl, rfl, Nat.le_of_ble_eq_true rfl, Nat.le_of_ble_eq_true rfl⟩ ⟨Nat.le_refl _, Nat.le_refl _⟩ dX8_stable_44 (fun H locs hH hS => ?_)
          refine lv_bipush (v := (-2 : Int32)) hx hb dX8_stable_47 (by decide) ?_
          refine lv_icmp_ne (tgt := 56) hx hb dX8_stable_49 (by decide) (fun c => ?_) (fun c => ?_)
          · have h := (if_neg c).symm.trans h
            refine lv_iconst (v := (0 : Int32)) hx hb dX8_stable_56 (by decide) ?_
            exact wX8_stable_57 X h _ _ _ hH hS (lv_sub hl [] rfl)
          · have h := (if_pos c).symm.trans h
            refine lv_iconst (v := (1 : Int32)) hx hb dX8_stable_52 (by decide) ?_
            refine lv_goto (tgt := 57) hx hb dX8_stable_53 (by decide) ?_
            exact wX8_stable_57 X h _ _ _ hH hS (lv_sub hl [] rfl)
        · have h := (if_pos c).symm.trans h
          exact wX8_stable_34 X h _ _ _ hH hS (lv_sub hl [] rfl)
set_option maxRecDepth 100000 in
theorem kX8_stable {N : Nat} {r : Int32} {T : zS} {S : zS} {z : Nat} {x0 : Nat} {x1 : Int32} {x2 : Int32} {x3 : Int32} {x4 : Int32} (h : fX8_stable N S x0 x1 x2 x3 x4 = some (r, T)) : Met l yX8_stable [.code yX8_stable cX8_stable 5 (some .int)] { frames := 6, cells := 0, slots := 0, locals := 144 } (zP D cy A S z [.ref x0, .int x1, .int x2, .int x3, .int x4]) (zQ D cy A T z (some (.int r))) 0 0 A := by
  refine z_met (lv := [(0, .ref x0), (1, .int x1), (2, .int x2), (3, .int x3), (4, .int x4)]) (by decide) (Nat.le_of_ble_eq_true rfl) rfl ?_
  intro p e s m below meth c X H locs ls hH hS hl
  exact wX8_stable_0 X h _ _ _ hH hS (lv_sub hl [0, 1, 2, 3, 4] rfl)
set_option maxRecDepth 100000 in
set_option maxHeartbeats 4000000 in
theorem wX8_breaks_36 {z : Nat} {N : Nat} {r : Int32} {T : zS} (X : zX D cy p s m meth c cX8_breaks 4 RX8 (some .int))  {S : zS} {y0 : Int32} (h : fX8_breaks_36 N S y0 = some (r, T)) : zWt D cy A p l e { frames := 6, cells := 0, slots := 0, locals := 144 } s m args below meth c z 0 0 0 0 (zQ D cy A T z (some (.int r))) S 4 36 [] [.int y0] := by
  obtain ⟨hx, hb, hml, hown, hr, hlocks, hT⟩ := id X
  intro H locs ls hH hS hl
  unfold fX8_breaks_36 at h
  exact z_iret X hH hS h dX8_breaks_36
set_option maxRecDepth 100000 in
set_option maxHeartbeats 4000000 in
theorem wX8_breaks_35 {z : Nat} {N : Nat} {r : Int32} {T : zS} (X : zX D cy p s m meth c cX8_breaks 4 RX8 (some .int))  {S : zS} (h : fX8_breaks_35 N S = some (r, T)) : zWt D cy A p l e { frames := 6, cells := 0, slots := 0, locals := 144 } s m args below meth c z 0 0 0 0 (zQ D cy A T z (some (.int r))) S 4 35 [] [] := by
  obtain ⟨hx, hb, hml, hown, hr, hlocks, hT⟩ := id X
  intro H locs ls hH hS hl
  unfold fX8_breaks_35 at h
  refine lv_iconst (v := (-1 : Int32)) hx hb dX8_breaks_35 (by decide) ?_
  exact wX8_breaks_36 X h _ _ _ hH hS (lv_sub hl [] rfl)
set_option maxRecDepth 100000 in
set_option maxHeartbeats 4000000 in
theorem wX8_breaks_0 {z : Nat} {N : Nat} {r : Int32} {T : zS} (X : zX D cy p s m meth c cX8_breaks 4 RX8 (some .int))  {S : zS} {x0 : Nat} {x1 : Int32} {x2 : Int32} {x3 : Int32} (h : fX8_breaks_0 N S x0 x1 x2 x3 = some (r, T)) : zWt D cy A p l e { frames := 6, cells := 0, slots := 0, locals := 144 } s m args below meth c z 0 0 0 0 (zQ D cy A T z (some (.int r))) S 4 0 [(0, .ref x0), (1, .int x1), (2, .int x2), (3, .int x3)] [] := by
  obtain ⟨hx, hb, hml, hown, hr, hlocks, hT⟩ := id X
  intro H locs ls hH hS hl
  unfold fX8_breaks_0 at h
  refine lv_iload_n hx hb dX8_breaks_0 rfl (lv_at hl 1 rfl) ?_
  obtain ⟨v2, S1, eS1, h⟩ := zb2_some h
  refine z_cS (As := [.int x1]) X hl hH hS mlX8_120 (kX8_isRoom eS1) rfl rfl (Nat.le_of_ble_eq_true rfl) ⟨rfl, rfl, Nat.le_of_ble_eq_true rfl, Nat.le_of_ble_eq_true rfl⟩ ⟨Nat.le_refl _, Nat.le_refl _⟩ dX8_breaks_1 (fun H locs hH hS => ?_)
  refine lv_if_eq (tgt := 35) hx hb dX8_breaks_4 (by decide) (fun c => ?_) (fun c => ?_)
  · have h := (if_pos c).symm.trans h
    exact wX8_breaks_35 X h _ _ _ hH hS (lv_sub hl [] rfl)
  · have h := (if_neg c).symm.trans h
    refine lv_aload_n hx hb dX8_breaks_7 rfl (lv_at hl 0 rfl) ?_
    refine lv_iload_n hx hb dX8_breaks_8 rfl (lv_at hl 2 rfl) ?_
    obtain ⟨u3, eu3, h⟩ := zb_some h
    obtain ⟨v5, S4, eS4, h⟩ := zb2_some h
    refine z_cV (As := [.int x2]) X hl hH hS mlX8_126 eu3 (kX8_isStep eS4) rfl rfl (Nat.le_of_ble_eq_true rfl) ⟨rfl, rfl, Nat.le_of_ble_eq_true rfl, Nat.le_of_ble_eq_true rfl⟩ ⟨Nat.le_refl _, Nat.le_refl _⟩ dX8_breaks_9 (fun H locs hH hS => ?_)
    refine lv_if_eq (tgt := 35) hx hb dX8_breaks_12 (by decide) (fun c => ?_) (fun c => ?_)
    · have h := (if_pos c).symm.trans h
      exact wX8_breaks_35 X h _ _ _ hH hS (lv_sub hl [] rfl)
    · have h := (if_neg c).symm.trans h
      refine lv_iload_n hx hb dX8_breaks_15 rfl (lv_at hl 3 rfl) ?_
      obtain ⟨v7, S6, eS6, h⟩ := zb2_some h
      refine z_cS (As := [.int x3]) X hl hH hS mlX8_123 (kX8_isWord eS6) rfl rfl (Nat.le_of_ble_eq_true rfl) ⟨rfl, rfl, Nat.le_of_ble_eq_true rfl, Nat.le_of_ble_eq_true rfl⟩ ⟨Nat.le_refl _, Nat.le_refl _⟩ dX8_breaks_16 (fun H locs hH hS => ?_)
      refine lv_if_eq (tgt := 35) hx hb dX8_breaks_19 (by decide) (fun c => ?_) (fun c => ?_)
      · have h := (if_pos c).symm.trans h
        exact wX8_breaks_35 X h _ _ _ hH hS (lv_sub hl [] rfl)
      · have h := (if_neg c).symm.trans h
        refine lv_aload_n hx hb dX8_breaks_22 rfl (lv_at hl 0 rfl) ?_
        refine lv_iload_n hx hb dX8_breaks_23 rfl (lv_at hl 1 rfl) ?_
        refine lv_iload_n hx hb dX8_breaks_24 rfl (lv_at hl 2 rfl) ?_
        refine lv_iload_n hx hb dX8_breaks_25 rfl (lv_at hl 3 rfl) ?_
        refine lv_sipush (v := (255 : Int32)) hx hb dX8_breaks_26 (by decide) ?_
        obtain ⟨u8, eu8, h⟩ := zb_some h
        obtain ⟨v10, S9, eS9, h⟩ := zb2_some h
        refine z_cV (As := [.int x1, .int x2, .int x3, .int (255 : Int32)]) X hl hH hS mlX8_211 eu8 (kX8_breaking eS9) rfl rfl (Nat.le_of_ble_eq_true rfl) ⟨rfl, rfl, Nat.le_of_ble_eq_true rfl, Nat.le_of_ble_eq_true rfl⟩ ⟨Nat.le_refl _, Nat.le_refl _⟩ dX8_breaks_29 (fun H locs hH hS => ?_)
        refine lv_goto (tgt := 36) hx hb dX8_breaks_32 (by decide) ?_
        exact wX8_breaks_36 X h _ _ _ hH hS (lv_sub hl [] rfl)
set_option maxRecDepth 100000 in
theorem kX8_breaks {N : Nat} {r : Int32} {T : zS} {S : zS} {z : Nat} {x0 : Nat} {x1 : Int32} {x2 : Int32} {x3 : Int32} (h : fX8_breaks N S x0 x1 x2 x3 = some (r, T)) : Met l yX8_breaks [.code yX8_breaks cX8_breaks 4 (some .int)] { frames := 6, cells := 0, slots := 0, locals := 144 } (zP D cy A S z [.ref x0, .int x1, .int x2, .int x3]) (zQ D cy A T z (some (.int r))) 0 0 A := by
  refine z_met (lv := [(0, .ref x0), (1, .int x1), (2, .int x2), (3, .int x3)]) (by decide) (Nat.le_of_ble_eq_true rfl) rfl ?_
  intro p e s m below meth c X H locs ls hH hS hl
  exact wX8_breaks_0 X h _ _ _ hH hS (lv_sub hl [0, 1, 2, 3] rfl)
set_option maxRecDepth 100000 in
set_option maxHeartbeats 4000000 in
theorem wX8_areEnough_120 {z : Nat} {N : Nat} {r : Int32} {T : zS} (X : zX D cy p s m meth c cX8_areEnough 7 RX8 (some .boolean)) {K2 : zS × Nat × Int32 × Int32 × Int32 → Option (Int32 × zS)} (hK2 : ∀ (S : zS) (x0 : Nat) (x1 : Int32) (x2 : Int32) (x3 : Int32), K2 (S, x0, x1, x2, x3) = some (r, T) → zWt D cy A p l e { frames := 0, cells := 0, slots := 0, locals := 0 } s m args below meth c z 0 0 0 0 (zQ D cy A T z (some (.int r))) S 7 2 [(0, .ref x0), (1, .int x1), (2, .int x2), (3, .int x3)] []) {S : zS} {x0 : Nat} {x1 : Int32} {x2 : Int32} {x3 : Int32} (h : fX8_areEnough_120 N K2 S x0 x1 x2 x3 = some (r, T)) : zWt D cy A p l e { frames := 0, cells := 0, slots := 0, locals := 0 } s m args below meth c z 0 0 0 0 (zQ D cy A T z (some (.int r))) S 7 120 [(0, .ref x0), (1, .int x1), (2, .int x2), (3, .int x3)] [] := by
  obtain ⟨hx, hb, hml, hown, hr, hlocks, hT⟩ := id X
  intro H locs ls hH hS hl
  unfold fX8_areEnough_120 at h
  refine lv_iinc (v := (x3 + (1 : Int32))) (lv' := [(3, .int (x3 + (1 : Int32))), (0, .ref x0), (1, .int x1), (2, .int x2)]) hx hb dX8_areEnough_120 hl (k := 3) rfl (z_ii (by decide) _) (by decide) rfl (fun ls hl => ?_)
  refine lv_goto (tgt := 2) hx hb dX8_areEnough_123 (by decide) ?_
  exact hK2 _ _ _ _ _ h _ _ _ hH hS (lv_sub hl [1, 2, 3, 0] rfl)
set_option maxRecDepth 100000 in
set_option maxHeartbeats 4000000 in
theorem wX8_areEnough_99 {z : Nat} {N : Nat} {r : Int32} {T : zS} (X : zX D cy p s m meth c cX8_areEnough 7 RX8 (some .boolean)) {K2 : zS × Nat × Int32 × Int32 × Int32 → Option (Int32 × zS)} (hK2 : ∀ (S : zS) (x0 : Nat) (x1 : Int32) (x2 : Int32) (x3 : Int32), K2 (S, x0, x1, x2, x3) = some (r, T) → zWt D cy A p l e { frames := 0, cells := 0, slots := 0, locals := 0 } s m args below meth c z 0 0 0 0 (zQ D cy A T z (some (.int r))) S 7 2 [(0, .ref x0), (1, .int x1), (2, .int x2), (3, .int x3)] []) {K25 : zS × Nat × Int32 × Int32 × Int32 × Int32 × Int32 → Option (Int32 × zS)} (hK25 : ∀ (S : zS) (x0 : Nat) (x1 : Int32) (x2 : Int32) (x3 : Int32) (x4 : Int32) (x5 : Int32), K25 (S, x0, x1, x2, x3, x4, x5) = some (r, T) → zWt D cy A p l e { frames := 0, cells := 0, slots := 0, locals := 0 } s m args below meth c z 0 0 0 0 (zQ D cy A T z (some (.int r))) S 7 25 [(0, .ref x0), (1, .int x1), (2, .int x2), (3, .int x3), (4, .int x4), (5, .int x5)] []) {K35 : zS × Nat × Int32 × Int32 × Int32 × Int32 × Int32 × Int32 → Option (Int32 × zS)} (hK35 : ∀ (S : zS) (x0 : Nat) (x1 : Int32) (x2 : Int32) (x3 : Int32) (x4 : Int32) (x5 : Int32) (x6 : Int32), K35 (S, x0, x1, x2, x3, x4, x5, x6) = some (r, T) → zWt D cy A p l e { frames := 0, cells := 0, slots := 0, locals := 0 } s m args below meth c z 0 0 0 0 (zQ D cy A T z (some (.int r))) S 7 35 [(0, .ref x0), (1, .int x1), (2, .int x2), (3, .int x3), (4, .int x4), (5, .int x5), (6, .int x6)] []) {S : zS} {x0 : Nat} {x1 : Int32} {x2 : Int32} {x3 : Int32} {x5 : Int32} {x6 : Int32} {y0 : Int32} (h : fX8_areEnough_99 N K2 K25 K35 S x0 x1 x2 x3 x5 x6 y0 = some (r, T)) : zWt D cy A p l e { frames := 0, cells := 0, slots := 0, locals := 0 } s m args below meth c z 0 0 0 0 (zQ D cy A T z (some (.int r))) S 7 99 [(0, .ref x0), (1, .int x1), (2, .int x2), (3, .int x3), (5, .int x5), (6, .int x6)] [.int y0] := by
  obtain ⟨hx, hb, hml, hown, hr, hlocks, hT⟩ := id X
  intro H locs ls hH hS hl
  unfold fX8_areEnough_99 at h
  refine lv_istore (lv' := [(4, .int y0), (0, .ref x0), (1, .int x1), (2, .int x2), (3, .int x3), (5, .int x5), (6, .int x6)]) hx hb dX8_areEnough_99 hl (by decide) rfl (fun ls hl => ?_)
  refine lv_iinc (v := (x6 + (1 : Int32))) (lv' := [(6, .int (x6 + (1 : Int32))), (4, .int y0), (0, .ref x0), (1, .int x1), (2, .int x2), (3, .int x3), (5, .int x5)]) hx hb dX8_areEnough_101 hl (k := 6) rfl (z_ii (by decide) _) (by decide) rfl (fun ls hl => ?_)
  refine lv_goto (tgt := 35) hx hb dX8_areEnough_104 (by decide) ?_
  exact hK35 _ _ _ _ _ _ _ _ h _ _ _ hH hS (lv_sub hl [2, 3, 4, 5, 1, 6, 0] rfl)
set_option maxRecDepth 100000 in
set_option maxHeartbeats 4000000 in
theorem wX8_areEnough_98 {z : Nat} {N : Nat} {r : Int32} {T : zS} (X : zX D cy p s m meth c cX8_areEnough 7 RX8 (some .boolean)) {K2 : zS × Nat × Int32 × Int32 × Int32 → Option (Int32 × zS)} (hK2 : ∀ (S : zS) (x0 : Nat) (x1 : Int32) (x2 : Int32) (x3 : Int32), K2 (S, x0, x1, x2, x3) = some (r, T) → zWt D cy A p l e { frames := 0, cells := 0, slots := 0, locals := 0 } s m args below meth c z 0 0 0 0 (zQ D cy A T z (some (.int r))) S 7 2 [(0, .ref x0), (1, .int x1), (2, .int x2), (3, .int x3)] []) {K25 : zS × Nat × Int32 × Int32 × Int32 × Int32 × Int32 → Option (Int32 × zS)} (hK25 : ∀ (S : zS) (x0 : Nat) (x1 : Int32) (x2 : Int32) (x3 : Int32) (x4 : Int32) (x5 : Int32), K25 (S, x0, x1, x2, x3, x4, x5) = some (r, T) → zWt D cy A p l e { frames := 0, cells := 0, slots := 0, locals := 0 } s m args below meth c z 0 0 0 0 (zQ D cy A T z (some (.int r))) S 7 25 [(0, .ref x0), (1, .int x1), (2, .int x2), (3, .int x3), (4, .int x4), (5, .int x5)] []) {K35 : zS × Nat × Int32 × Int32 × Int32 × Int32 × Int32 × Int32 → Option (Int32 × zS)} (hK35 : ∀ (S : zS) (x0 : Nat) (x1 : Int32) (x2 : Int32) (x3 : Int32) (x4 : Int32) (x5 : Int32) (x6 : Int32), K35 (S, x0, x1, x2, x3, x4, x5, x6) = some (r, T) → zWt D cy A p l e { frames := 0, cells := 0, slots := 0, locals := 0 } s m args below meth c z 0 0 0 0 (zQ D cy A T z (some (.int r))) S 7 35 [(0, .ref x0), (1, .int x1), (2, .int x2), (3, .int x3), (4, .int x4), (5, .int x5), (6, .int x6)] []) {S : zS} {x0 : Nat} {x1 : Int32} {x2 : Int32} {x3 : Int32} {x5 : Int32} {x6 : Int32} (h : fX8_areEnough_98 N K2 K25 K35 S x0 x1 x2 x3 x5 x6 = some (r, T)) : zWt D cy A p l e { frames := 0, cells := 0, slots := 0, locals := 0 } s m args below meth c z 0 0 0 0 (zQ D cy A T z (some (.int r))) S 7 98 [(0, .ref x0), (1, .int x1), (2, .int x2), (3, .int x3), (5, .int x5), (6, .int x6)] [] := by
  obtain ⟨hx, hb, hml, hown, hr, hlocks, hT⟩ := id X
  intro H locs ls hH hS hl
  unfold fX8_areEnough_98 at h
  refine lv_iconst (v := (0 : Int32)) hx hb dX8_areEnough_98 (by decide) ?_
  exact wX8_areEnough_99 X hK2 hK25 hK35 h _ _ _ hH hS (lv_sub hl [0, 1, 2, 3, 4, 5] rfl)
set_option maxRecDepth 100000 in
set_option maxHeartbeats 4000000 in
theorem wX8_areEnough_94 {z : Nat} {N : Nat} {r : Int32} {T : zS} (X : zX D cy p s m meth c cX8_areEnough 7 RX8 (some .boolean)) {K2 : zS × Nat × Int32 × Int32 × Int32 → Option (Int32 × zS)} (hK2 : ∀ (S : zS) (x0 : Nat) (x1 : Int32) (x2 : Int32) (x3 : Int32), K2 (S, x0, x1, x2, x3) = some (r, T) → zWt D cy A p l e { frames := 0, cells := 0, slots := 0, locals := 0 } s m args below meth c z 0 0 0 0 (zQ D cy A T z (some (.int r))) S 7 2 [(0, .ref x0), (1, .int x1), (2, .int x2), (3, .int x3)] []) {K25 : zS × Nat × Int32 × Int32 × Int32 × Int32 × Int32 → Option (Int32 × zS)} (hK25 : ∀ (S : zS) (x0 : Nat) (x1 : Int32) (x2 : Int32) (x3 : Int32) (x4 : Int32) (x5 : Int32), K25 (S, x0, x1, x2, x3, x4, x5) = some (r, T) → zWt D cy A p l e { frames := 0, cells := 0, slots := 0, locals := 0 } s m args below meth c z 0 0 0 0 (zQ D cy A T z (some (.int r))) S 7 25 [(0, .ref x0), (1, .int x1), (2, .int x2), (3, .int x3), (4, .int x4), (5, .int x5)] []) {K35 : zS × Nat × Int32 × Int32 × Int32 × Int32 × Int32 × Int32 → Option (Int32 × zS)} (hK35 : ∀ (S : zS) (x0 : Nat) (x1 : Int32) (x2 : Int32) (x3 : Int32) (x4 : Int32) (x5 : Int32) (x6 : Int32), K35 (S, x0, x1, x2, x3, x4, x5, x6) = some (r, T) → zWt D cy A p l e { frames := 0, cells := 0, slots := 0, locals := 0 } s m args below meth c z 0 0 0 0 (zQ D cy A T z (some (.int r))) S 7 35 [(0, .ref x0), (1, .int x1), (2, .int x2), (3, .int x3), (4, .int x4), (5, .int x5), (6, .int x6)] []) {S : zS} {x0 : Nat} {x1 : Int32} {x2 : Int32} {x3 : Int32} {x5 : Int32} {x6 : Int32} (h : fX8_areEnough_94 N K2 K25 K35 S x0 x1 x2 x3 x5 x6 = some (r, T)) : zWt D cy A p l e { frames := 0, cells := 0, slots := 0, locals := 0 } s m args below meth c z 0 0 0 0 (zQ D cy A T z (some (.int r))) S 7 94 [(0, .ref x0), (1, .int x1), (2, .int x2), (3, .int x3), (5, .int x5), (6, .int x6)] [] := by
  obtain ⟨hx, hb, hml, hown, hr, hlocks, hT⟩ := id X
  intro H locs ls hH hS hl
  unfold fX8_areEnough_94 at h
  refine lv_iconst (v := (1 : Int32)) hx hb dX8_areEnough_94 (by decide) ?_
  refine lv_goto (tgt := 99) hx hb dX8_areEnough_95 (by decide) ?_
  exact wX8_areEnough_99 X hK2 hK25 hK35 h _ _ _ hH hS (lv_sub hl [0, 1, 2, 3, 4, 5] rfl)
set_option maxRecDepth 100000 in
set_option maxHeartbeats 4000000 in
theorem wX8_areEnough_35 {z : Nat} {N : Nat} {r : Int32} {T : zS} (X : zX D cy p s m meth c cX8_areEnough 7 RX8 (some .boolean)) {K2 : zS × Nat × Int32 × Int32 × Int32 → Option (Int32 × zS)} (hK2 : ∀ (S : zS) (x0 : Nat) (x1 : Int32) (x2 : Int32) (x3 : Int32), K2 (S, x0, x1, x2, x3) = some (r, T) → zWt D cy A p l e { frames := 0, cells := 0, slots := 0, locals := 0 } s m args below meth c z 0 0 0 0 (zQ D cy A T z (some (.int r))) S 7 2 [(0, .ref x0), (1, .int x1), (2, .int x2), (3, .int x3)] []) {K25 : zS × Nat × Int32 × Int32 × Int32 × Int32 × Int32 → Option (Int32 × zS)} (hK25 : ∀ (S : zS) (x0 : Nat) (x1 : Int32) (x2 : Int32) (x3 : Int32) (x4 : Int32) (x5 : Int32), K25 (S, x0, x1, x2, x3, x4, x5) = some (r, T) → zWt D cy A p l e { frames := 0, cells := 0, slots := 0, locals := 0 } s m args below meth c z 0 0 0 0 (zQ D cy A T z (some (.int r))) S 7 25 [(0, .ref x0), (1, .int x1), (2, .int x2), (3, .int x3), (4, .int x4), (5, .int x5)] []) {K35 : zS × Nat × Int32 × Int32 × Int32 × Int32 × Int32 × Int32 → Option (Int32 × zS)} (hK35 : ∀ (S : zS) (x0 : Nat) (x1 : Int32) (x2 : Int32) (x3 : Int32) (x4 : Int32) (x5 : Int32) (x6 : Int32), K35 (S, x0, x1, x2, x3, x4, x5, x6) = some (r, T) → zWt D cy A p l e { frames := 0, cells := 0, slots := 0, locals := 0 } s m args below meth c z 0 0 0 0 (zQ D cy A T z (some (.int r))) S 7 35 [(0, .ref x0), (1, .int x1), (2, .int x2), (3, .int x3), (4, .int x4), (5, .int x5), (6, .int x6)] []) {S : zS} {x0 : Nat} {x1 : Int32} {x2 : Int32} {x3 : Int32} {x4 : Int32} {x5 : Int32} {x6 : Int32} (h : fX8_areEnough_35 N K2 K25 K35 S x0 x1 x2 x3 x4 x5 x6 = some (r, T)) : zWt D cy A p l e { frames := 0, cells := 0, slots := 0, locals := 0 } s m args below meth c z 0 0 0 0 (zQ D cy A T z (some (.int r))) S 7 35 [(0, .ref x0), (1, .int x1), (2, .int x2), (3, .int x3), (4, .int x4), (5, .int x5), (6, .int x6)] [] := by
  obtain ⟨hx, hb, hml, hown, hr, hlocks, hT⟩ := id X
  intro H locs ls hH hS hl
  unfold fX8_areEnough_35 at h
  refine lv_iload hx hb dX8_areEnough_35 (lv_at hl 6 rfl) ?_
  refine lv_iload hx hb dX8_areEnough_37 (lv_at hl 5 rfl) ?_
  refine lv_icmp_ge (tgt := 107) hx hb dX8_areEnough_39 (by decide) (fun c => ?_) (fun c => ?_)
  · have h := (if_pos c).symm.trans h
    refine lv_iinc (v := (x5 + (1 : Int32))) (lv' := [(5, .int (x5 + (1 : Int32))), (0, .ref x0), (1, .int x1), (2, .int x2), (3, .int x3), (4, .int x4), (6, .int x6)]) hx hb dX8_areEnough_107 hl (k := 5) rfl (z_ii (by decide) _) (by decide) rfl (fun ls hl => ?_)
    refine lv_goto (tgt := 25) hx hb dX8_areEnough_110 (by decide) ?_
    exact hK25 _ _ _ _ _ _ _ h _ _ _ hH hS (lv_sub hl [1, 2, 3, 4, 5, 0] rfl)
  · have h := (if_neg c).symm.trans h
    refine lv_iload hx hb dX8_areEnough_42 (lv_at hl 4 rfl) ?_
    refine lv_if_ne (tgt := 94) hx hb dX8_areEnough_44 (by decide) (fun c => ?_) (fun c => ?_)
    · have h := (if_neg c).symm.trans h
      exact wX8_areEnough_94 X hK2 hK25 hK35 h _ _ _ hH hS (lv_sub hl [0, 1, 2, 3, 5, 6] rfl)
    · have h := (if_pos c).symm.trans h
      refine lv_iload_n hx hb dX8_areEnough_47 rfl (lv_at hl 1 rfl) ?_
      refine lv_iload hx hb dX8_areEnough_48 (lv_at hl 5 rfl) ?_
      refine lv_ishr hx hb dX8_areEnough_50 ?_
      refine lv_iconst (v := (1 : Int32)) hx hb dX8_areEnough_51 (by decide) ?_
      refine lv_iand hx hb dX8_areEnough_52 ?_
      refine lv_iconst (v := (1 : Int32)) hx hb dX8_areEnough_53 (by decide) ?_
      refine lv_icmp_ne (tgt := 98) hx hb dX8_areEnough_54 (by decide) (fun c => ?_) (fun c => ?_)
      · have h := (if_neg c).symm.trans h
        exact wX8_areEnough_98 X hK2 hK25 hK35 h _ _ _ hH hS (lv_sub hl [0, 1, 2, 3, 5, 6] rfl)
      · have h := (if_pos c).symm.trans h
        refine lv_iload_n hx hb dX8_areEnough_57 rfl (lv_at hl 1 rfl) ?_
        refine lv_iload hx hb dX8_areEnough_58 (lv_at hl 6 rfl) ?_
        refine lv_ishr hx hb dX8_areEnough_60 ?_
        refine lv_iconst (v := (1 : Int32)) hx hb dX8_areEnough_61 (by decide) ?_
        refine lv_iand hx hb dX8_areEnough_62 ?_
        refine lv_iconst (v := (1 : Int32)) hx hb dX8_areEnough_63 (by decide) ?_
        refine lv_icmp_ne (tgt := 98) hx hb dX8_areEnough_64 (by decide) (fun c => ?_) (fun c => ?_)
        · have h := (if_neg c).symm.trans h
          exact wX8_areEnough_98 X hK2 hK25 hK35 h _ _ _ hH hS (lv_sub hl [0, 1, 2, 3, 5, 6] rfl)
        · have h := (if_pos c).symm.trans h
          refine lv_aload_n hx hb dX8_areEnough_67 rfl (lv_at hl 0 rfl) ?_
          obtain ⟨v1, ev1, h⟩ := zb_some h
          refine z_getr X flX8_23 hH ev1 dX8_areEnough_68 ?_
          refine lv_bipush (v := (8 : Int32)) hx hb dX8_areEnough_71 (by decide) ?_
          refine lv_iload hx hb dX8_areEnough_73 (lv_at hl 5 rfl) ?_
          refine lv_imul hx hb dX8_areEnough_75 ?_
          refine lv_iload_n hx hb dX8_areEnough_76 rfl (lv_at hl 3 rfl) ?_
          refine lv_iadd hx hb dX8_areEnough_77 ?_
          obtain ⟨v2, ev2, h⟩ := zb_some h
          refine z_iald X hH ev2 dX8_areEnough_78 ?_
          refine lv_aload_n hx hb dX8_areEnough_79 rfl (lv_at hl 0 rfl) ?_
          obtain ⟨v3, ev3, h⟩ := zb_some h
          refine z_getr X flX8_23 hH ev3 dX8_areEnough_80 ?_
          refine lv_bipush (v := (8 : Int32)) hx hb dX8_areEnough_83 (by decide) ?_
          refine lv_iload hx hb dX8_areEnough_85 (lv_at hl 6 rfl) ?_
          refine lv_imul hx hb dX8_areEnough_87 ?_
          refine lv_iload_n hx hb dX8_areEnough_88 rfl (lv_at hl 3 rfl) ?_
          refine lv_iadd hx hb dX8_areEnough_89 ?_
          obtain ⟨v4, ev4, h⟩ := zb_some h
          refine z_iald X hH ev4 dX8_areEnough_90 ?_
          refine lv_icmp_eq (tgt := 98) hx hb dX8_areEnough_91 (by decide) (fun c => ?_) (fun c => ?_)
          · have h := (if_pos c).symm.trans h
            exact wX8_areEnough_98 X hK2 hK25 hK35 h _ _ _ hH hS (lv_sub hl [0, 1, 2, 3, 5, 6] rfl)
          · have h := (if_neg c).symm.trans h
            exact wX8_areEnough_94 X hK2 hK25 hK35 h _ _ _ hH hS (lv_sub hl [0, 1, 2, 3, 5, 6] rfl)
set_option maxRecDepth 100000 in
set_option maxHeartbeats 4000000 in
theorem uX8_areEnough_35 {z : Nat} {N : Nat} {r : Int32} {T : zS} (X : zX D cy p s m meth c cX8_areEnough 7 RX8 (some .boolean)) {K2 : zS × Nat × Int32 × Int32 × Int32 → Option (Int32 × zS)} (hK2 : ∀ (S : zS) (x0 : Nat) (x1 : Int32) (x2 : Int32) (x3 : Int32), K2 (S, x0, x1, x2, x3) = some (r, T) → zWt D cy A p l e { frames := 0, cells := 0, slots := 0, locals := 0 } s m args below meth c z 0 0 0 0 (zQ D cy A T z (some (.int r))) S 7 2 [(0, .ref x0), (1, .int x1), (2, .int x2), (3, .int x3)] []) {K25 : zS × Nat × Int32 × Int32 × Int32 × Int32 × Int32 → Option (Int32 × zS)} (hK25 : ∀ (S : zS) (x0 : Nat) (x1 : Int32) (x2 : Int32) (x3 : Int32) (x4 : Int32) (x5 : Int32), K25 (S, x0, x1, x2, x3, x4, x5) = some (r, T) → zWt D cy A p l e { frames := 0, cells := 0, slots := 0, locals := 0 } s m args below meth c z 0 0 0 0 (zQ D cy A T z (some (.int r))) S 7 25 [(0, .ref x0), (1, .int x1), (2, .int x2), (3, .int x3), (4, .int x4), (5, .int x5)] []) {S : zS} {x0 : Nat} {x1 : Int32} {x2 : Int32} {x3 : Int32} {x4 : Int32} {x5 : Int32} {x6 : Int32} (h : lX8_areEnough_35 N K2 K25 S x0 x1 x2 x3 x4 x5 x6 = some (r, T)) : zWt D cy A p l e { frames := 0, cells := 0, slots := 0, locals := 0 } s m args below meth c z 0 0 0 0 (zQ D cy A T z (some (.int r))) S 7 35 [(0, .ref x0), (1, .int x1), (2, .int x2), (3, .int x3), (4, .int x4), (5, .int x5), (6, .int x6)] [] := by
  unfold lX8_areEnough_35 at h
  refine zloop_ind (P := fun y => zWt D cy A p l e { frames := 0, cells := 0, slots := 0, locals := 0 } s m args below meth c z 0 0 0 0 (zQ D cy A T z (some (.int r))) y.1 7 35 [(0, .ref y.2.1), (1, .int y.2.2.1), (2, .int y.2.2.2.1), (3, .int y.2.2.2.2.1), (4, .int y.2.2.2.2.2.1), (5, .int y.2.2.2.2.2.2.1), (6, .int y.2.2.2.2.2.2.2)] []) ?_ N (S, x0, x1, x2, x3, x4, x5, x6) h
  intro K hK y hy
  obtain ⟨S, x0, x1, x2, x3, x4, x5, x6⟩ := y
  exact wX8_areEnough_35 X hK2 hK25 (fun S x0 x1 x2 x3 x4 x5 x6 hq => hK (S, x0, x1, x2, x3, x4, x5, x6) hq) hy
set_option maxRecDepth 100000 in
set_option maxHeartbeats 4000000 in
theorem wX8_areEnough_25 {z : Nat} {N : Nat} {r : Int32} {T : zS} (X : zX D cy p s m meth c cX8_areEnough 7 RX8 (some .boolean)) {K2 : zS × Nat × Int32 × Int32 × Int32 → Option (Int32 × zS)} (hK2 : ∀ (S : zS) (x0 : Nat) (x1 : Int32) (x2 : Int32) (x3 : Int32), K2 (S, x0, x1, x2, x3) = some (r, T) → zWt D cy A p l e { frames := 0, cells := 0, slots := 0, locals := 0 } s m args below meth c z 0 0 0 0 (zQ D cy A T z (some (.int r))) S 7 2 [(0, .ref x0), (1, .int x1), (2, .int x2), (3, .int x3)] []) {K25 : zS × Nat × Int32 × Int32 × Int32 × Int32 × Int32 → Option (Int32 × zS)} (hK25 : ∀ (S : zS) (x0 : Nat) (x1 : Int32) (x2 : Int32) (x3 : Int32) (x4 : Int32) (x5 : Int32), K25 (S, x0, x1, x2, x3, x4, x5) = some (r, T) → zWt D cy A p l e { frames := 0, cells := 0, slots := 0, locals := 0 } s m args below meth c z 0 0 0 0 (zQ D cy A T z (some (.int r))) S 7 25 [(0, .ref x0), (1, .int x1), (2, .int x2), (3, .int x3), (4, .int x4), (5, .int x5)] []) {S : zS} {x0 : Nat} {x1 : Int32} {x2 : Int32} {x3 : Int32} {x4 : Int32} {x5 : Int32} (h : fX8_areEnough_25 N K2 K25 S x0 x1 x2 x3 x4 x5 = some (r, T)) : zWt D cy A p l e { frames := 0, cells := 0, slots := 0, locals := 0 } s m args below meth c z 0 0 0 0 (zQ D cy A T z (some (.int r))) S 7 25 [(0, .ref x0), (1, .int x1), (2, .int x2), (3, .int x3), (4, .int x4), (5, .int x5)] [] := by
  obtain ⟨hx, hb, hml, hown, hr, hlocks, hT⟩ := id X
  intro H locs ls hH hS hl
  unfold fX8_areEnough_25 at h
  refine lv_iload hx hb dX8_areEnough_25 (lv_at hl 5 rfl) ?_
  refine lv_bipush (v := (8 : Int32)) hx hb dX8_areEnough_27 (by decide) ?_
  refine lv_icmp_ge (tgt := 113) hx hb dX8_areEnough_29 (by decide) (fun c => ?_) (fun c => ?_)
  · have h := (if_pos c).symm.trans h
    refine lv_iload hx hb dX8_areEnough_113 (lv_at hl 4 rfl) ?_
    refine lv_if_ne (tgt := 120) hx hb dX8_areEnough_115 (by decide) (fun c => ?_) (fun c => ?_)
    · have h := (if_neg c).symm.trans h
      exact wX8_areEnough_120 X hK2 h _ _ _ hH hS (lv_sub hl [0, 1, 2, 3] rfl)
    · have h := (if_pos c).symm.trans h
      refine lv_iconst (v := (0 : Int32)) hx hb dX8_areEnough_118 (by decide) ?_
      exact z_zret X hH hS h dX8_areEnough_119
  · have h := (if_neg c).symm.trans h
    refine lv_iconst (v := (0 : Int32)) hx hb dX8_areEnough_32 (by decide) ?_
    refine lv_istore (lv' := [(6, .int (0 : Int32)), (0, .ref x0), (1, .int x1), (2, .int x2), (3, .int x3), (4, .int x4), (5, .int x5)]) hx hb dX8_areEnough_33 hl (by decide) rfl (fun ls hl => ?_)
    exact uX8_areEnough_35 X hK2 hK25 h _ _ _ hH hS (lv_sub hl [1, 2, 3, 4, 5, 6, 0] rfl)
set_option maxRecDepth 100000 in
set_option maxHeartbeats 4000000 in
theorem uX8_areEnough_25 {z : Nat} {N : Nat} {r : Int32} {T : zS} (X : zX D cy p s m meth c cX8_areEnough 7 RX8 (some .boolean)) {K2 : zS × Nat × Int32 × Int32 × Int32 → Option (Int32 × zS)} (hK2 : ∀ (S : zS) (x0 : Nat) (x1 : Int32) (x2 : Int32) (x3 : Int32), K2 (S, x0, x1, x2, x3) = some (r, T) → zWt D cy A p l e { frames := 0, cells := 0, slots := 0, locals := 0 } s m args below meth c z 0 0 0 0 (zQ D cy A T z (some (.int r))) S 7 2 [(0, .ref x0), (1, .int x1), (2, .int x2), (3, .int x3)] []) {S : zS} {x0 : Nat} {x1 : Int32} {x2 : Int32} {x3 : Int32} {x4 : Int32} {x5 : Int32} (h : lX8_areEnough_25 N K2 S x0 x1 x2 x3 x4 x5 = some (r, T)) : zWt D cy A p l e { frames := 0, cells := 0, slots := 0, locals := 0 } s m args below meth c z 0 0 0 0 (zQ D cy A T z (some (.int r))) S 7 25 [(0, .ref x0), (1, .int x1), (2, .int x2), (3, .int x3), (4, .int x4), (5, .int x5)] [] := by
  unfold lX8_areEnough_25 at h
  refine zloop_ind (P := fun y => zWt D cy A p l e { frames := 0, cells := 0, slots := 0, locals := 0 } s m args below meth c z 0 0 0 0 (zQ D cy A T z (some (.int r))) y.1 7 25 [(0, .ref y.2.1), (1, .int y.2.2.1), (2, .int y.2.2.2.1), (3, .int y.2.2.2.2.1), (4, .int y.2.2.2.2.2.1), (5, .int y.2.2.2.2.2.2)] []) ?_ N (S, x0, x1, x2, x3, x4, x5) h
  intro K hK y hy
  obtain ⟨S, x0, x1, x2, x3, x4, x5⟩ := y
  exact wX8_areEnough_25 X hK2 (fun S x0 x1 x2 x3 x4 x5 hq => hK (S, x0, x1, x2, x3, x4, x5) hq) hy
set_option maxRecDepth 100000 in
set_option maxHeartbeats 4000000 in
theorem wX8_areEnough_2 {z : Nat} {N : Nat} {r : Int32} {T : zS} (X : zX D cy p s m meth c cX8_areEnough 7 RX8 (some .boolean)) {K2 : zS × Nat × Int32 × Int32 × Int32 → Option (Int32 × zS)} (hK2 : ∀ (S : zS) (x0 : Nat) (x1 : Int32) (x2 : Int32) (x3 : Int32), K2 (S, x0, x1, x2, x3) = some (r, T) → zWt D cy A p l e { frames := 0, cells := 0, slots := 0, locals := 0 } s m args below meth c z 0 0 0 0 (zQ D cy A T z (some (.int r))) S 7 2 [(0, .ref x0), (1, .int x1), (2, .int x2), (3, .int x3)] []) {S : zS} {x0 : Nat} {x1 : Int32} {x2 : Int32} {x3 : Int32} (h : fX8_areEnough_2 N K2 S x0 x1 x2 x3 = some (r, T)) : zWt D cy A p l e { frames := 0, cells := 0, slots := 0, locals := 0 } s m args below meth c z 0 0 0 0 (zQ D cy A T z (some (.int r))) S 7 2 [(0, .ref x0), (1, .int x1), (2, .int x2), (3, .int x3)] [] := by
  obtain ⟨hx, hb, hml, hown, hr, hlocks, hT⟩ := id X
  intro H locs ls hH hS hl
  unfold fX8_areEnough_2 at h
  refine lv_iload_n hx hb dX8_areEnough_2 rfl (lv_at hl 3 rfl) ?_
  refine lv_bipush (v := (8 : Int32)) hx hb dX8_areEnough_3 (by decide) ?_
  refine lv_icmp_ge (tgt := 126) hx hb dX8_areEnough_5 (by decide) (fun c => ?_) (fun c => ?_)
  · have h := (if_pos c).symm.trans h
    refine lv_iconst (v := (1 : Int32)) hx hb dX8_areEnough_126 (by decide) ?_
    exact z_zret X hH hS h dX8_areEnough_127
  · have h := (if_neg c).symm.trans h
    refine lv_iload_n hx hb dX8_areEnough_8 rfl (lv_at hl 2 rfl) ?_
    refine lv_iload_n hx hb dX8_areEnough_9 rfl (lv_at hl 3 rfl) ?_
    refine lv_ishr hx hb dX8_areEnough_10 ?_
    refine lv_iconst (v := (1 : Int32)) hx hb dX8_areEnough_11 (by decide) ?_
    refine lv_iand hx hb dX8_areEnough_12 ?_
    refine lv_if_ne (tgt := 19) hx hb dX8_areEnough_13 (by decide) (fun c => ?_) (fun c => ?_)
    · have h := (if_neg c).symm.trans h
      refine lv_iconst (v := (0 : Int32)) hx hb dX8_areEnough_19 (by decide) ?_
      refine lv_istore (lv' := [(4, .int (0 : Int32)), (0, .ref x0), (1, .int x1), (2, .int x2), (3, .int x3)]) hx hb dX8_areEnough_20 hl (by decide) rfl (fun ls hl => ?_)
      refine lv_iconst (v := (0 : Int32)) hx hb dX8_areEnough_22 (by decide) ?_
      refine lv_istore (lv' := [(5, .int (0 : Int32)), (4, .int (0 : Int32)), (0, .ref x0), (1, .int x1), (2, .int x2), (3, .int x3)]) hx hb dX8_areEnough_23 hl (by decide) rfl (fun ls hl => ?_)
      exact uX8_areEnough_25 X hK2 h _ _ _ hH hS (lv_sub hl [2, 3, 4, 5, 1, 0] rfl)
    · have h := (if_pos c).symm.trans h
      refine lv_goto (tgt := 120) hx hb dX8_areEnough_16 (by decide) ?_
      exact wX8_areEnough_120 X hK2 h _ _ _ hH hS (lv_sub hl [0, 1, 2, 3] rfl)
set_option maxRecDepth 100000 in
set_option maxHeartbeats 4000000 in
theorem uX8_areEnough_2 {z : Nat} {N : Nat} {r : Int32} {T : zS} (X : zX D cy p s m meth c cX8_areEnough 7 RX8 (some .boolean))  {S : zS} {x0 : Nat} {x1 : Int32} {x2 : Int32} {x3 : Int32} (h : lX8_areEnough_2 N S x0 x1 x2 x3 = some (r, T)) : zWt D cy A p l e { frames := 0, cells := 0, slots := 0, locals := 0 } s m args below meth c z 0 0 0 0 (zQ D cy A T z (some (.int r))) S 7 2 [(0, .ref x0), (1, .int x1), (2, .int x2), (3, .int x3)] [] := by
  unfold lX8_areEnough_2 at h
  refine zloop_ind (P := fun y => zWt D cy A p l e { frames := 0, cells := 0, slots := 0, locals := 0 } s m args below meth c z 0 0 0 0 (zQ D cy A T z (some (.int r))) y.1 7 2 [(0, .ref y.2.1), (1, .int y.2.2.1), (2, .int y.2.2.2.1), (3, .int y.2.2.2.2)] []) ?_ N (S, x0, x1, x2, x3) h
  intro K hK y hy
  obtain ⟨S, x0, x1, x2, x3⟩ := y
  exact wX8_areEnough_2 X (fun S x0 x1 x2 x3 hq => hK (S, x0, x1, x2, x3) hq) hy
set_option maxRecDepth 100000 in
set_option maxHeartbeats 4000000 in
theorem wX8_areEnough_0 {z : Nat} {N : Nat} {r : Int32} {T : zS} (X : zX D cy p s m meth c cX8_areEnough 7 RX8 (some .boolean))  {S : zS} {x0 : Nat} {x1 : Int32} {x2 : Int32} (h : fX8_areEnough_0 N S x0 x1 x2 = some (r, T)) : zWt D cy A p l e { frames := 0, cells := 0, slots := 0, locals := 0 } s m args below meth c z 0 0 0 0 (zQ D cy A T z (some (.int r))) S 7 0 [(0, .ref x0), (1, .int x1), (2, .int x2)] [] := by
  obtain ⟨hx, hb, hml, hown, hr, hlocks, hT⟩ := id X
  intro H locs ls hH hS hl
  unfold fX8_areEnough_0 at h
  refine lv_iconst (v := (0 : Int32)) hx hb dX8_areEnough_0 (by decide) ?_
  refine lv_istore_n (lv' := [(3, .int (0 : Int32)), (0, .ref x0), (1, .int x1), (2, .int x2)]) hx hb dX8_areEnough_1 rfl hl (by decide) rfl (fun ls hl => ?_)
  exact uX8_areEnough_2 X h _ _ _ hH hS (lv_sub hl [1, 2, 3, 0] rfl)
set_option maxRecDepth 100000 in
theorem kX8_areEnough {N : Nat} {r : Int32} {T : zS} {S : zS} {z : Nat} {x0 : Nat} {x1 : Int32} {x2 : Int32} (h : fX8_areEnough N S x0 x1 x2 = some (r, T)) : Met l yX8_areEnough [.code yX8_areEnough cX8_areEnough 7 (some .boolean)] { frames := 0, cells := 0, slots := 0, locals := 0 } (zP D cy A S z [.ref x0, .int x1, .int x2]) (zQ D cy A T z (some (.int r))) 0 0 A := by
  refine z_met (lv := [(0, .ref x0), (1, .int x1), (2, .int x2)]) (by decide) (Nat.le_of_ble_eq_true rfl) rfl ?_
  intro p e s m below meth c X H locs ls hH hS hl
  exact wX8_areEnough_0 X h _ _ _ hH hS (lv_sub hl [0, 1, 2] rfl)
set_option maxRecDepth 100000 in
set_option maxHeartbeats 4000000 in
theorem wX8_rooms_105 {z : Nat} {N : Nat} {r : Int32} {T : zS} (X : zX D cy p s m meth c cX8_rooms 6 RX8 (some .int))  {S : zS} {y0 : Int32} (h : fX8_rooms_105 N S y0 = some (r, T)) : zWt D cy A p l e { frames := 6, cells := 0, slots := 0, locals := 145 } s m args below meth c z 0 0 0 0 (zQ D cy A T z (some (.int r))) S 6 105 [] [.int y0] := by
  obtain ⟨hx, hb, hml, hown, hr, hlocks, hT⟩ := id X
  intro H locs ls hH hS hl
  unfold fX8_rooms_105 at h
  exact z_iret X hH hS h dX8_rooms_105
set_option maxRecDepth 100000 in
set_option maxHeartbeats 4000000 in
theorem wX8_rooms_87 {z : Nat} {N : Nat} {r : Int32} {T : zS} (X : zX D cy p s m meth c cX8_rooms 6 RX8 (some .int)) {K35 : zS × Nat × Int32 × Int32 × Int32 × Int32 → Option (Int32 × zS)} (hK35 : ∀ (S : zS) (x0 : Nat) (x2 : Int32) (x3 : Int32) (x4 : Int32) (x5 : Int32), K35 (S, x0, x2, x3, x4, x5) = some (r, T) → zWt D cy A p l e { frames := 6, cells := 0, slots := 0, locals := 145 } s m args below meth c z 0 0 0 0 (zQ D cy A T z (some (.int r))) S 6 35 [(0, .ref x0), (2, .int x2), (3, .int x3), (4, .int x4), (5, .int x5)] []) {S : zS} {x0 : Nat} {x2 : Int32} {x3 : Int32} {x4 : Int32} {x5 : Int32} (h : fX8_rooms_87 N K35 S x0 x2 x3 x4 x5 = some (r, T)) : zWt D cy A p l e { frames := 6, cells := 0, slots := 0, locals := 145 } s m args below meth c z 0 0 0 0 (zQ D cy A T z (some (.int r))) S 6 87 [(0, .ref x0), (2, .int x2), (3, .int x3), (4, .int x4), (5, .int x5)] [] := by
  obtain ⟨hx, hb, hml, hown, hr, hlocks, hT⟩ := id X
  intro H locs ls hH hS hl
  unfold fX8_rooms_87 at h
  refine lv_iinc (v := (x5 + (1 : Int32))) (lv' := [(5, .int (x5 + (1 : Int32))), (0, .ref x0), (2, .int x2), (3, .int x3), (4, .int x4)]) hx hb dX8_rooms_87 hl (k := 4) rfl (z_ii (by decide) _) (by decide) rfl (fun ls hl => ?_)
  refine lv_goto (tgt := 35) hx hb dX8_rooms_90 (by decide) ?_
  exact hK35 _ _ _ _ _ _ h _ _ _ hH hS (lv_sub hl [1, 2, 3, 4, 0] rfl)
set_option maxRecDepth 100000 in
set_option maxHeartbeats 4000000 in
theorem wX8_rooms_73 {z : Nat} {N : Nat} {r : Int32} {T : zS} (X : zX D cy p s m meth c cX8_rooms 6 RX8 (some .int)) {K35 : zS × Nat × Int32 × Int32 × Int32 × Int32 → Option (Int32 × zS)} (hK35 : ∀ (S : zS) (x0 : Nat) (x2 : Int32) (x3 : Int32) (x4 : Int32) (x5 : Int32), K35 (S, x0, x2, x3, x4, x5) = some (r, T) → zWt D cy A p l e { frames := 6, cells := 0, slots := 0, locals := 145 } s m args below meth c z 0 0 0 0 (zQ D cy A T z (some (.int r))) S 6 35 [(0, .ref x0), (2, .int x2), (3, .int x3), (4, .int x4), (5, .int x5)] []) {S : zS} {x0 : Nat} {x2 : Int32} {x3 : Int32} {x4 : Int32} {x5 : Int32} (h : fX8_rooms_73 N K35 S x0 x2 x3 x4 x5 = some (r, T)) : zWt D cy A p l e { frames := 6, cells := 0, slots := 0, locals := 145 } s m args below meth c z 0 0 0 0 (zQ D cy A T z (some (.int r))) S 6 73 [(0, .ref x0), (2, .int x2), (3, .int x3), (4, .int x4), (5, .int x5)] [] := by
  obtain ⟨hx, hb, hml, hown, hr, hlocks, hT⟩ := id X
  intro H locs ls hH hS hl
  unfold fX8_rooms_73 at h
  refine lv_aload_n hx hb dX8_rooms_73 rfl (lv_at hl 0 rfl) ?_
  refine lv_iload hx hb dX8_rooms_74 (lv_at hl 4 rfl) ?_
  refine lv_iload_n hx hb dX8_rooms_76 rfl (lv_at hl 2 rfl) ?_
  obtain ⟨u1, eu1, h⟩ := zb_some h
  obtain ⟨v3, S2, eS2, h⟩ := zb2_some h
  refine z_cV (As := [.int x5, .int x3]) X hl hH hS mlX8_215 eu1 (kX8_areEnough eS2) rfl rfl (Nat.le_of_ble_eq_true rfl) ⟨rfl, rfl, Nat.le_of_ble_eq_true rfl, Nat.le_of_ble_eq_true rfl⟩ ⟨Nat.le_refl _, Nat.le_refl _⟩ dX8_rooms_77 (fun H locs hH hS => ?_)
  refine lv_if_eq (tgt := 87) hx hb dX8_rooms_80 (by decide) (fun c => ?_) (fun c => ?_)
  · have h := (if_pos c).symm.trans h
    exact wX8_rooms_87 X hK35 h _ _ _ hH hS (lv_sub hl [0, 1, 2, 3, 4] rfl)
  · have h := (if_neg c).symm.trans h
    refine lv_iload hx hb dX8_rooms_83 (lv_at hl 4 rfl) ?_
    refine lv_istore (lv' := [(4, .int x5), (0, .ref x0), (2, .int x2), (3, .int x3), (5, .int x5)]) hx hb dX8_rooms_85 hl (by decide) rfl (fun ls hl => ?_)
    exact wX8_rooms_87 X hK35 h _ _ _ hH hS (lv_sub hl [1, 2, 3, 0, 4] rfl)
set_option maxRecDepth 100000 in
set_option maxHeartbeats 4000000 in
theorem wX8_rooms_35 {z : Nat} {N : Nat} {r : Int32} {T : zS} (X : zX D cy p s m meth c cX8_rooms 6 RX8 (some .int)) {K35 : zS × Nat × Int32 × Int32 × Int32 × Int32 → Option (Int32 × zS)} (hK35 : ∀ (S : zS) (x0 : Nat) (x2 : Int32) (x3 : Int32) (x4 : Int32) (x5 : Int32), K35 (S, x0, x2, x3, x4, x5) = some (r, T) → zWt D cy A p l e { frames := 6, cells := 0, slots := 0, locals := 145 } s m args below meth c z 0 0 0 0 (zQ D cy A T z (some (.int r))) S 6 35 [(0, .ref x0), (2, .int x2), (3, .int x3), (4, .int x4), (5, .int x5)] []) {S : zS} {x0 : Nat} {x2 : Int32} {x3 : Int32} {x4 : Int32} {x5 : Int32} (h : fX8_rooms_35 N K35 S x0 x2 x3 x4 x5 = some (r, T)) : zWt D cy A p l e { frames := 6, cells := 0, slots := 0, locals := 145 } s m args below meth c z 0 0 0 0 (zQ D cy A T z (some (.int r))) S 6 35 [(0, .ref x0), (2, .int x2), (3, .int x3), (4, .int x4), (5, .int x5)] [] := by
  obtain ⟨hx, hb, hml, hown, hr, hlocks, hT⟩ := id X
  intro H locs ls hH hS hl
  unfold fX8_rooms_35 at h
  refine lv_iload hx hb dX8_rooms_35 (lv_at hl 4 rfl) ?_
  refine lv_sipush (v := (256 : Int32)) hx hb dX8_rooms_37 (by decide) ?_
  refine lv_icmp_ge (tgt := 93) hx hb dX8_rooms_40 (by decide) (fun c => ?_) (fun c => ?_)
  · have h := (if_pos c).symm.trans h
    refine lv_iload hx hb dX8_rooms_93 (lv_at hl 3 rfl) ?_
    refine lv_if_ge (tgt := 103) hx hb dX8_rooms_95 (by decide) (fun c => ?_) (fun c => ?_)
    · have h := (if_pos c).symm.trans h
      refine lv_iload hx hb dX8_rooms_103 (lv_at hl 3 rfl) ?_
      exact wX8_rooms_105 X h _ _ _ hH hS (lv_sub hl [] rfl)
    · have h := (if_neg c).symm.trans h
      refine lv_bipush (v := (-2 : Int32)) hx hb dX8_rooms_98 (by decide) ?_
      refine lv_goto (tgt := 105) hx hb dX8_rooms_100 (by decide) ?_
      exact wX8_rooms_105 X h _ _ _ hH hS (lv_sub hl [] rfl)
  · have h := (if_neg c).symm.trans h
    refine lv_iload hx hb dX8_rooms_43 (lv_at hl 4 rfl) ?_
    refine lv_iload_n hx hb dX8_rooms_45 rfl (lv_at hl 1 rfl) ?_
    refine lv_iconst (v := (-1 : Int32)) hx hb dX8_rooms_46 (by decide) ?_
    refine lv_ixor hx hb dX8_rooms_47 ?_
    refine lv_iand hx hb dX8_rooms_48 ?_
    refine lv_if_ne (tgt := 87) hx hb dX8_rooms_49 (by decide) (fun c => ?_) (fun c => ?_)
    · have h := (if_neg c).symm.trans h
      exact wX8_rooms_87 X hK35 h _ _ _ hH hS (lv_sub hl [0, 1, 2, 3, 4] rfl)
    · have h := (if_pos c).symm.trans h
      refine lv_iload hx hb dX8_rooms_52 (lv_at hl 3 rfl) ?_
      refine lv_if_lt (tgt := 73) hx hb dX8_rooms_54 (by decide) (fun c => ?_) (fun c => ?_)
      · have h := (if_pos c).symm.trans h
        exact wX8_rooms_73 X hK35 h _ _ _ hH hS (lv_sub hl [0, 1, 2, 3, 4] rfl)
      · have h := (if_neg c).symm.trans h
        refine lv_iload hx hb dX8_rooms_57 (lv_at hl 4 rfl) ?_
        obtain ⟨v5, S4, eS4, h⟩ := zb2_some h
        refine z_cS (As := [.int x5]) X hl hH hS mlX8_184 (kX8_bits eS4) rfl rfl (Nat.le_of_ble_eq_true rfl) ⟨rfl, rfl, Nat.le_of_ble_eq_true rfl, Nat.le_of_ble_eq_true rfl⟩ ⟨Nat.le_refl _, Nat.le_refl _⟩ dX8_rooms_59 (fun H locs hH hS => ?_)
        refine lv_iload hx hb dX8_rooms_62 (lv_at hl 3 rfl) ?_
        obtain ⟨v7, S6, eS6, h⟩ := zb2_some h
        refine z_cS (As := [.int x4]) X hl hH hS mlX8_184 (kX8_bits eS6) rfl rfl (Nat.le_of_ble_eq_true rfl) ⟨rfl, rfl, Nat.le_of_ble_eq_true rfl, Nat.le_of_ble_eq_true rfl⟩ ⟨Nat.le_refl _, Nat.le_refl _⟩ dX8_rooms_64 (fun H locs hH hS => ?_)
        refine lv_icmp_lt (tgt := 73) hx hb dX8_rooms_67 (by decide) (fun c => ?_) (fun c => ?_)
        · have h := (if_pos c).symm.trans h
          exact wX8_rooms_73 X hK35 h _ _ _ hH hS (lv_sub hl [0, 1, 2, 3, 4] rfl)
        · have h := (if_neg c).symm.trans h
          refine lv_goto (tgt := 87) hx hb dX8_rooms_70 (by decide) ?_
          exact wX8_rooms_87 X hK35 h _ _ _ hH hS (lv_sub hl [0, 1, 2, 3, 4] rfl)
set_option maxRecDepth 100000 in
set_option maxHeartbeats 4000000 in
theorem uX8_rooms_35 {z : Nat} {N : Nat} {r : Int32} {T : zS} (X : zX D cy p s m meth c cX8_rooms 6 RX8 (some .int))  {S : zS} {x0 : Nat} {x2 : Int32} {x3 : Int32} {x4 : Int32} {x5 : Int32} (h : lX8_rooms_35 N S x0 x2 x3 x4 x5 = some (r, T)) : zWt D cy A p l e { frames := 6, cells := 0, slots := 0, locals := 145 } s m args below meth c z 0 0 0 0 (zQ D cy A T z (some (.int r))) S 6 35 [(0, .ref x0), (2, .int x2), (3, .int x3), (4, .int x4), (5, .int x5)] [] := by
  unfold lX8_rooms_35 at h
  refine zloop_ind (P := fun y => zWt D cy A p l e { frames := 6, cells := 0, slots := 0, locals := 145 } s m args below meth c z 0 0 0 0 (zQ D cy A T z (some (.int r))) y.1 6 35 [(0, .ref y.2.1), (2, .int y.2.2.1), (3, .int y.2.2.2.1), (4, .int y.2.2.2.2.1), (5, .int y.2.2.2.2.2)] []) ?_ N (S, x0, x2, x3, x4, x5) h
  intro K hK y hy
  obtain ⟨S, x0, x2, x3, x4, x5⟩ := y
  exact wX8_rooms_35 X (fun S x0 x2 x3 x4 x5 hq => hK (S, x0, x2, x3, x4, x5) hq) hy
set_option maxRecDepth 100000 in
set_option maxHeartbeats 4000000 in
theorem wX8_rooms_19 {z : Nat} {N : Nat} {r : Int32} {T : zS} (X : zX D cy p s m meth c cX8_rooms 6 RX8 (some .int))  {S : zS} (h : fX8_rooms_19 N S = some (r, T)) : zWt D cy A p l e { frames := 6, cells := 0, slots := 0, locals := 145 } s m args below meth c z 0 0 0 0 (zQ D cy A T z (some (.int r))) S 6 19 [] [] := by
  obtain ⟨hx, hb, hml, hown, hr, hlocks, hT⟩ := id X
  intro H locs ls hH hS hl
  unfold fX8_rooms_19 at h
  refine lv_iconst (v := (-1 : Int32)) hx hb dX8_rooms_19 (by decide) ?_
  exact z_iret X hH hS h dX8_rooms_20
set_option maxRecDepth 100000 in
set_option maxHeartbeats 4000000 in
theorem wX8_rooms_0 {z : Nat} {N : Nat} {r : Int32} {T : zS} (X : zX D cy p s m meth c cX8_rooms 6 RX8 (some .int))  {S : zS} {x0 : Nat} {x1 : Int32} {x2 : Int32} (h : fX8_rooms_0 N S x0 x1 x2 = some (r, T)) : zWt D cy A p l e { frames := 6, cells := 0, slots := 0, locals := 145 } s m args below meth c z 0 0 0 0 (zQ D cy A T z (some (.int r))) S 6 0 [(0, .ref x0), (1, .int x1), (2, .int x2)] [] := by
  obtain ⟨hx, hb, hml, hown, hr, hlocks, hT⟩ := id X
  intro H locs ls hH hS hl
  unfold fX8_rooms_0 at h
  refine lv_aload_n hx hb dX8_rooms_0 rfl (lv_at hl 0 rfl) ?_
  refine lv_iload_n hx hb dX8_rooms_1 rfl (lv_at hl 1 rfl) ?_
  obtain ⟨u8, eu8, h⟩ := zb_some h
  obtain ⟨v10, S9, eS9, h⟩ := zb2_some h
  refine z_cV (As := [.int x1]) X hl hH hS mlX8_126 eu8 (kX8_isStep eS9) rfl rfl (Nat.le_of_ble_eq_true rfl) ⟨rfl, rfl, Nat.le_of_ble_eq_true rfl, Nat.le_of_ble_eq_true rfl⟩ ⟨Nat.le_refl _, Nat.le_refl _⟩ dX8_rooms_2 (fun H locs hH hS => ?_)
  refine lv_if_eq (tgt := 19) hx hb dX8_rooms_5 (by decide) (fun c => ?_) (fun c => ?_)
  · have h := (if_pos c).symm.trans h
    exact wX8_rooms_19 X h _ _ _ hH hS (lv_sub hl [] rfl)
  · have h := (if_neg c).symm.trans h
    refine lv_iload_n hx hb dX8_rooms_8 rfl (lv_at hl 2 rfl) ?_
    refine lv_iconst (v := (1 : Int32)) hx hb dX8_rooms_9 (by decide) ?_
    refine lv_sipush (v := (255 : Int32)) hx hb dX8_rooms_10 (by decide) ?_
    obtain ⟨v12, S11, eS11, h⟩ := zb2_some h
    refine z_cS (As := [.int x2, .int (1 : Int32), .int (255 : Int32)]) X hl hH hS mlX8_99 (kX8_in eS11) rfl rfl (Nat.le_of_ble_eq_true rfl) ⟨rfl, rfl, Nat.le_of_ble_eq_true rfl, Nat.le_of_ble_eq_true rfl⟩ ⟨Nat.le_refl _, Nat.le_refl _⟩ dX8_rooms_13 (fun H locs hH hS => ?_)
    refine lv_if_ne (tgt := 21) hx hb dX8_rooms_16 (by decide) (fun c => ?_) (fun c => ?_)
    · have h := (if_neg c).symm.trans h
      refine lv_aload_n hx hb dX8_rooms_21 rfl (lv_at hl 0 rfl) ?_
      refine lv_iconst (v := (0 : Int32)) hx hb dX8_rooms_22 (by decide) ?_
      refine lv_iload_n hx hb dX8_rooms_23 rfl (lv_at hl 1 rfl) ?_
      refine lv_iconst (v := (1 : Int32)) hx hb dX8_rooms_24 (by decide) ?_
      obtain ⟨u13, eu13, h⟩ := zb_some h
      obtain ⟨v15, S14, eS14, h⟩ := zb2_some h
      refine z_cV (As := [.int (0 : Int32), .int x1, .int (1 : Int32)]) X hl hH hS mlX8_178 eu13 (kX8_wordsOf eS14) rfl rfl (Nat.le_of_ble_eq_true rfl) ⟨rfl, rfl, Nat.le_of_ble_eq_true rfl, Nat.le_of_ble_eq_true rfl⟩ ⟨Nat.le_refl _, Nat.le_refl _⟩ dX8_rooms_25 (fun H locs hH hS => ?_)
      refine lv_istore_n (lv' := [(3, .int v15), (0, .ref x0), (1, .int x1), (2, .int x2)]) hx hb dX8_rooms_28 rfl hl (by decide) rfl (fun ls hl => ?_)
      refine lv_iconst (v := (-1 : Int32)) hx hb dX8_rooms_29 (by decide) ?_
      refine lv_istore (lv' := [(4, .int (-1 : Int32)), (3, .int v15), (0, .ref x0), (1, .int x1), (2, .int x2)]) hx hb dX8_rooms_30 hl (by decide) rfl (fun ls hl => ?_)
      refine lv_iconst (v := (1 : Int32)) hx hb dX8_rooms_32 (by decide) ?_
      refine lv_istore (lv' := [(5, .int (1 : Int32)), (4, .int (-1 : Int32)), (3, .int v15), (0, .ref x0), (1, .int x1), (2, .int x2)]) hx hb dX8_rooms_33 hl (by decide) rfl (fun ls hl => ?_)
      exact uX8_rooms_35 X h _ _ _ hH hS (lv_sub hl [3, 5, 2, 1, 0] rfl)
    · have h := (if_pos c).symm.trans h
      exact wX8_rooms_19 X h _ _ _ hH hS (lv_sub hl [] rfl)
set_option maxRecDepth 100000 in
theorem kX8_rooms {N : Nat} {r : Int32} {T : zS} {S : zS} {z : Nat} {x0 : Nat} {x1 : Int32} {x2 : Int32} (h : fX8_rooms N S x0 x1 x2 = some (r, T)) : Met l yX8_rooms [.code yX8_rooms cX8_rooms 6 (some .int)] { frames := 6, cells := 0, slots := 0, locals := 145 } (zP D cy A S z [.ref x0, .int x1, .int x2]) (zQ D cy A T z (some (.int r))) 0 0 A := by
  refine z_met (lv := [(0, .ref x0), (1, .int x1), (2, .int x2)]) (by decide) (Nat.le_of_ble_eq_true rfl) rfl ?_
  intro p e s m below meth c X H locs ls hH hS hl
  exact wX8_rooms_0 X h _ _ _ hH hS (lv_sub hl [0, 1, 2] rfl)
set_option maxRecDepth 100000 in
set_option maxHeartbeats 4000000 in
theorem wX8_isMaker_0 {z : Nat} {N : Nat} {r : Int32} {T : zS} (X : zX D cy p s m meth c cX8_isMaker 1 RX8 (some .boolean))  {S : zS} {x0 : Int32} (h : fX8_isMaker_0 N S x0 = some (r, T)) : zWt D cy A p l e { frames := 1, cells := 0, slots := 0, locals := 22 } s m args below meth c z 0 0 0 0 (zQ D cy A T z (some (.int r))) S 1 0 [(0, .int x0)] [] := by
  obtain ⟨hx, hb, hml, hown, hr, hlocks, hT⟩ := id X
  intro H locs ls hH hS hl
  unfold fX8_isMaker_0 at h
  refine lv_iload_n hx hb dX8_isMaker_0 rfl (lv_at hl 0 rfl) ?_
  refine lv_iconst (v := (0 : Int32)) hx hb dX8_isMaker_1 (by decide) ?_
  refine lv_bipush (v := (29 : Int32)) hx hb dX8_isMaker_2 (by decide) ?_
  obtain ⟨v2, S1, eS1, h⟩ := zb2_some h
  refine z_cS (As := [.int x0, .int (0 : Int32), .int (29 : Int32)]) X hl hH hS mlX8_99 (kX8_in eS1) rfl rfl (Nat.le_of_ble_eq_true rfl) ⟨rfl, rfl, Nat.le_of_ble_eq_true rfl, Nat.le_of_ble_eq_true rfl⟩ ⟨Nat.le_refl _, Nat.le_refl _⟩ dX8_isMaker_4 (fun H locs hH hS => ?_)
  exact z_zret X hH hS h dX8_isMaker_7
set_option maxRecDepth 100000 in
theorem kX8_isMaker {N : Nat} {r : Int32} {T : zS} {S : zS} {z : Nat} {x0 : Int32} (h : fX8_isMaker N S x0 = some (r, T)) : Met l yX8_isMaker [.code yX8_isMaker cX8_isMaker 1 (some .boolean)] { frames := 1, cells := 0, slots := 0, locals := 22 } (zP D cy A S z [.int x0]) (zQ D cy A T z (some (.int r))) 0 0 A := by
  refine z_met (lv := [(0, .int x0)]) (by decide) (Nat.le_of_ble_eq_true rfl) rfl ?_
  intro p e s m below meth c X H locs ls hH hS hl
  exact wX8_isMaker_0 X h _ _ _ hH hS (lv_sub hl [0] rfl)
set_option maxRecDepth 100000 in
set_option maxHeartbeats 4000000 in
theorem wX8_maker_50 {z : Nat} {N : Nat} {r : Int32} {T : zS} (X : zX D cy p s m meth c cX8_maker 4 RX8 (some .int))  {S : zS} {y0 : Nat} {y1 : Int32} {y2 : Int32} (h : fX8_maker_50 N S y0 y1 y2 = some (r, T)) : zWt D cy A p l e { frames := 2, cells := 0, slots := 0, locals := 43 } s m args below meth c z 0 0 0 0 (zQ D cy A T z (some (.int r))) S 4 50 [] [.int y2, .int y1, .ref y0] := by
  obtain ⟨hx, hb, hml, hown, hr, hlocks, hT⟩ := id X
  intro H locs ls hH hS hl
  unfold fX8_maker_50 at h
  obtain ⟨S1, eS1, h⟩ := zb_some h
  refine z_iast X hH hS eS1 dX8_maker_50 (fun H locs hH hS => ?_)
  refine lv_iconst (v := (1 : Int32)) hx hb dX8_maker_51 (by decide) ?_
  exact z_iret X hH hS h dX8_maker_52
set_option maxRecDepth 100000 in
set_option maxHeartbeats 4000000 in
theorem wX8_maker_29 {z : Nat} {N : Nat} {r : Int32} {T : zS} (X : zX D cy p s m meth c cX8_maker 4 RX8 (some .int))  {S : zS} {x0 : Nat} {x1 : Int32} {x2 : Int32} {x3 : Int32} (h : fX8_maker_29 N S x0 x1 x2 x3 = some (r, T)) : zWt D cy A p l e { frames := 2, cells := 0, slots := 0, locals := 43 } s m args below meth c z 0 0 0 0 (zQ D cy A T z (some (.int r))) S 4 29 [(0, .ref x0), (1, .int x1), (2, .int x2), (3, .int x3)] [] := by
  obtain ⟨hx, hb, hml, hown, hr, hlocks, hT⟩ := id X
  intro H locs ls hH hS hl
  unfold fX8_maker_29 at h
  refine lv_aload_n hx hb dX8_maker_29 rfl (lv_at hl 0 rfl) ?_
  obtain ⟨v2, ev2, h⟩ := zb_some h
  refine z_getr X flX8_80 hH ev2 dX8_maker_30 ?_
  refine lv_iload_n hx hb dX8_maker_33 rfl (lv_at hl 1 rfl) ?_
  refine lv_iload_n hx hb dX8_maker_34 rfl (lv_at hl 2 rfl) ?_
  obtain ⟨S3, eS3, h⟩ := zb_some h
  refine z_iast X hH hS eS3 dX8_maker_35 (fun H locs hH hS => ?_)
  refine lv_aload_n hx hb dX8_maker_36 rfl (lv_at hl 0 rfl) ?_
  obtain ⟨v4, ev4, h⟩ := zb_some h
  refine z_getr X flX8_83 hH ev4 dX8_maker_37 ?_
  refine lv_iload_n hx hb dX8_maker_40 rfl (lv_at hl 1 rfl) ?_
  refine lv_iload_n hx hb dX8_maker_41 rfl (lv_at hl 2 rfl) ?_
  refine lv_if_ge (tgt := 49) hx hb dX8_maker_42 (by decide) (fun c => ?_) (fun c => ?_)
  · have h := (if_pos c).symm.trans h
    refine lv_iload_n hx hb dX8_maker_49 rfl (lv_at hl 3 rfl) ?_
    exact wX8_maker_50 X h _ _ _ hH hS (lv_sub hl [] rfl)
  · have h := (if_neg c).symm.trans h
    refine lv_iconst (v := (0 : Int32)) hx hb dX8_maker_45 (by decide) ?_
    refine lv_goto (tgt := 50) hx hb dX8_maker_46 (by decide) ?_
    exact wX8_maker_50 X h _ _ _ hH hS (lv_sub hl [] rfl)
set_option maxRecDepth 100000 in
set_option maxHeartbeats 4000000 in
theorem wX8_maker_27 {z : Nat} {N : Nat} {r : Int32} {T : zS} (X : zX D cy p s m meth c cX8_maker 4 RX8 (some .int))  {S : zS} (h : fX8_maker_27 N S = some (r, T)) : zWt D cy A p l e { frames := 2, cells := 0, slots := 0, locals := 43 } s m args below meth c z 0 0 0 0 (zQ D cy A T z (some (.int r))) S 4 27 [] [] := by
  obtain ⟨hx, hb, hml, hown, hr, hlocks, hT⟩ := id X
  intro H locs ls hH hS hl
  unfold fX8_maker_27 at h
  refine lv_iconst (v := (-1 : Int32)) hx hb dX8_maker_27 (by decide) ?_
  exact z_iret X hH hS h dX8_maker_28
set_option maxRecDepth 100000 in
set_option maxHeartbeats 4000000 in
theorem wX8_maker_0 {z : Nat} {N : Nat} {r : Int32} {T : zS} (X : zX D cy p s m meth c cX8_maker 4 RX8 (some .int))  {S : zS} {x0 : Nat} {x1 : Int32} {x2 : Int32} {x3 : Int32} (h : fX8_maker_0 N S x0 x1 x2 x3 = some (r, T)) : zWt D cy A p l e { frames := 2, cells := 0, slots := 0, locals := 43 } s m args below meth c z 0 0 0 0 (zQ D cy A T z (some (.int r))) S 4 0 [(0, .ref x0), (1, .int x1), (2, .int x2), (3, .int x3)] [] := by
  obtain ⟨hx, hb, hml, hown, hr, hlocks, hT⟩ := id X
  intro H locs ls hH hS hl
  unfold fX8_maker_0 at h
  refine lv_iload_n hx hb dX8_maker_0 rfl (lv_at hl 1 rfl) ?_
  obtain ⟨v6, S5, eS5, h⟩ := zb2_some h
  refine z_cS (As := [.int x1]) X hl hH hS mlX8_218 (kX8_isMaker eS5) rfl rfl (Nat.le_of_ble_eq_true rfl) ⟨rfl, rfl, Nat.le_of_ble_eq_true rfl, Nat.le_of_ble_eq_true rfl⟩ ⟨Nat.le_refl _, Nat.le_refl _⟩ dX8_maker_1 (fun H locs hH hS => ?_)
  refine lv_if_eq (tgt := 27) hx hb dX8_maker_4 (by decide) (fun c => ?_) (fun c => ?_)
  · have h := (if_pos c).symm.trans h
    exact wX8_maker_27 X h _ _ _ hH hS (lv_sub hl [] rfl)
  · have h := (if_neg c).symm.trans h
    refine lv_iload_n hx hb dX8_maker_7 rfl (lv_at hl 2 rfl) ?_
    refine lv_iconst (v := (-1 : Int32)) hx hb dX8_maker_8 (by decide) ?_
    refine lv_icmp_eq (tgt := 29) hx hb dX8_maker_9 (by decide) (fun c => ?_) (fun c => ?_)
    · have h := (if_pos c).symm.trans h
      exact wX8_maker_29 X h _ _ _ hH hS (lv_sub hl [0, 1, 2, 3] rfl)
    · have h := (if_neg c).symm.trans h
      refine lv_iload_n hx hb dX8_maker_12 rfl (lv_at hl 2 rfl) ?_
      obtain ⟨v8, S7, eS7, h⟩ := zb2_some h
      refine z_cS (As := [.int x2]) X hl hH hS mlX8_218 (kX8_isMaker eS7) rfl rfl (Nat.le_of_ble_eq_true rfl) ⟨rfl, rfl, Nat.le_of_ble_eq_true rfl, Nat.le_of_ble_eq_true rfl⟩ ⟨Nat.le_refl _, Nat.le_refl _⟩ dX8_maker_13 (fun H locs hH hS => ?_)
      refine lv_if_eq (tgt := 27) hx hb dX8_maker_16 (by decide) (fun c => ?_) (fun c => ?_)
      · have h := (if_pos c).symm.trans h
        exact wX8_maker_27 X h _ _ _ hH hS (lv_sub hl [] rfl)
      · have h := (if_neg c).symm.trans h
        refine lv_aload_n hx hb dX8_maker_19 rfl (lv_at hl 0 rfl) ?_
        refine lv_iload_n hx hb dX8_maker_20 rfl (lv_at hl 3 rfl) ?_
        obtain ⟨u9, eu9, h⟩ := zb_some h
        obtain ⟨v11, S10, eS10, h⟩ := zb2_some h
        refine z_cV (As := [.int x3]) X hl hH hS mlX8_116 eu9 (kX8_isText eS10) rfl rfl (Nat.le_of_ble_eq_true rfl) ⟨rfl, rfl, Nat.le_of_ble_eq_true rfl, Nat.le_of_ble_eq_true rfl⟩ ⟨Nat.le_refl _, Nat.le_refl _⟩ dX8_maker_21 (fun H locs hH hS => ?_)
        refine lv_if_ne (tgt := 29) hx hb dX8_maker_24 (by decide) (fun c => ?_) (fun c => ?_)
        · have h := (if_neg c).symm.trans h
          exact wX8_maker_29 X h _ _ _ hH hS (lv_sub hl [0, 1, 2, 3] rfl)
        · have h := (if_pos c).symm.trans h
          exact wX8_maker_27 X h _ _ _ hH hS (lv_sub hl [] rfl)
set_option maxRecDepth 100000 in
theorem kX8_maker {N : Nat} {r : Int32} {T : zS} {S : zS} {z : Nat} {x0 : Nat} {x1 : Int32} {x2 : Int32} {x3 : Int32} (h : fX8_maker N S x0 x1 x2 x3 = some (r, T)) : Met l yX8_maker [.code yX8_maker cX8_maker 4 (some .int)] { frames := 2, cells := 0, slots := 0, locals := 43 } (zP D cy A S z [.ref x0, .int x1, .int x2, .int x3]) (zQ D cy A T z (some (.int r))) 0 0 A := by
  refine z_met (lv := [(0, .ref x0), (1, .int x1), (2, .int x2), (3, .int x3)]) (by decide) (Nat.le_of_ble_eq_true rfl) rfl ?_
  intro p e s m below meth c X H locs ls hH hS hl
  exact wX8_maker_0 X h _ _ _ hH hS (lv_sub hl [0, 1, 2, 3] rfl)
set_option maxRecDepth 100000 in
set_option maxHeartbeats 4000000 in
theorem wX8_downFrom_4 {z : Nat} {N : Nat} {r : Int32} {T : zS} (X : zX D cy p s m meth c cX8_downFrom 4 RX8 (some .int)) {K4 : zS × Nat × Int32 × Int32 → Option (Int32 × zS)} (hK4 : ∀ (S : zS) (x0 : Nat) (x2 : Int32) (x3 : Int32), K4 (S, x0, x2, x3) = some (r, T) → zWt D cy A p l e { frames := 0, cells := 0, slots := 0, locals := 0 } s m args below meth c z 0 0 0 0 (zQ D cy A T z (some (.int r))) S 4 4 [(0, .ref x0), (2, .int x2), (3, .int x3)] []) {S : zS} {x0 : Nat} {x2 : Int32} {x3 : Int32} (h : fX8_downFrom_4 N K4 S x0 x2 x3 = some (r, T)) : zWt D cy A p l e { frames := 0, cells := 0, slots := 0, locals := 0 } s m args below meth c z 0 0 0 0 (zQ D cy A T z (some (.int r))) S 4 4 [(0, .ref x0), (2, .int x2), (3, .int x3)] [] := by
  obtain ⟨hx, hb, hml, hown, hr, hlocks, hT⟩ := id X
  intro H locs ls hH hS hl
  unfold fX8_downFrom_4 at h
  refine lv_aload_n hx hb dX8_downFrom_4 rfl (lv_at hl 0 rfl) ?_
  obtain ⟨v1, ev1, h⟩ := zb_some h
  refine z_getr X flX8_80 hH ev1 dX8_downFrom_5 ?_
  refine lv_iload_n hx hb dX8_downFrom_8 rfl (lv_at hl 2 rfl) ?_
  obtain ⟨v2, ev2, h⟩ := zb_some h
  refine z_iald X hH ev2 dX8_downFrom_9 ?_
  refine lv_if_lt (tgt := 35) hx hb dX8_downFrom_10 (by decide) (fun c => ?_) (fun c => ?_)
  · have h := (if_pos c).symm.trans h
    refine lv_iload_n hx hb dX8_downFrom_35 rfl (lv_at hl 1 rfl) ?_
    exact z_iret X hH hS h dX8_downFrom_36
  · have h := (if_neg c).symm.trans h
    refine lv_iload_n hx hb dX8_downFrom_13 rfl (lv_at hl 1 rfl) ?_
    refine lv_bipush (v := (30 : Int32)) hx hb dX8_downFrom_14 (by decide) ?_
    refine lv_icmp_ne (tgt := 22) hx hb dX8_downFrom_16 (by decide) (fun c => ?_) (fun c => ?_)
    · have h := (if_neg c).symm.trans h
      refine lv_aload_n hx hb dX8_downFrom_22 rfl (lv_at hl 0 rfl) ?_
      obtain ⟨v3, ev3, h⟩ := zb_some h
      refine z_getr X flX8_80 hH ev3 dX8_downFrom_23 ?_
      refine lv_iload_n hx hb dX8_downFrom_26 rfl (lv_at hl 2 rfl) ?_
      obtain ⟨v4, ev4, h⟩ := zb_some h
      refine z_iald X hH ev4 dX8_downFrom_27 ?_
      refine lv_istore_n (lv' := [(3, .int v4), (0, .ref x0), (2, .int x2)]) hx hb dX8_downFrom_28 rfl hl (by decide) rfl (fun ls hl => ?_)
      refine lv_iinc (v := (x2 + (1 : Int32))) (lv' := [(2, .int (x2 + (1 : Int32))), (3, .int v4), (0, .ref x0)]) hx hb dX8_downFrom_29 hl (k := 2) rfl (z_ii (by decide) _) (by decide) rfl (fun ls hl => ?_)
      refine lv_goto (tgt := 4) hx hb dX8_downFrom_32 (by decide) ?_
      exact hK4 _ _ _ _ h _ _ _ hH hS (lv_sub hl [2, 0, 1] rfl)
    · have h := (if_pos c).symm.trans h
      refine lv_bipush (v := (-5 : Int32)) hx hb dX8_downFrom_19 (by decide) ?_
      exact z_iret X hH hS h dX8_downFrom_21
set_option maxRecDepth 100000 in
set_option maxHeartbeats 4000000 in
theorem uX8_downFrom_4 {z : Nat} {N : Nat} {r : Int32} {T : zS} (X : zX D cy p s m meth c cX8_downFrom 4 RX8 (some .int))  {S : zS} {x0 : Nat} {x2 : Int32} {x3 : Int32} (h : lX8_downFrom_4 N S x0 x2 x3 = some (r, T)) : zWt D cy A p l e { frames := 0, cells := 0, slots := 0, locals := 0 } s m args below meth c z 0 0 0 0 (zQ D cy A T z (some (.int r))) S 4 4 [(0, .ref x0), (2, .int x2), (3, .int x3)] [] := by
  unfold lX8_downFrom_4 at h
  refine zloop_ind (P := fun y => zWt D cy A p l e { frames := 0, cells := 0, slots := 0, locals := 0 } s m args below meth c z 0 0 0 0 (zQ D cy A T z (some (.int r))) y.1 4 4 [(0, .ref y.2.1), (2, .int y.2.2.1), (3, .int y.2.2.2)] []) ?_ N (S, x0, x2, x3) h
  intro K hK y hy
  obtain ⟨S, x0, x2, x3⟩ := y
  exact wX8_downFrom_4 X (fun S x0 x2 x3 hq => hK (S, x0, x2, x3) hq) hy
set_option maxRecDepth 100000 in
set_option maxHeartbeats 4000000 in
theorem wX8_downFrom_0 {z : Nat} {N : Nat} {r : Int32} {T : zS} (X : zX D cy p s m meth c cX8_downFrom 4 RX8 (some .int))  {S : zS} {x0 : Nat} {x1 : Int32} (h : fX8_downFrom_0 N S x0 x1 = some (r, T)) : zWt D cy A p l e { frames := 0, cells := 0, slots := 0, locals := 0 } s m args below meth c z 0 0 0 0 (zQ D cy A T z (some (.int r))) S 4 0 [(0, .ref x0), (1, .int x1)] [] := by
  obtain ⟨hx, hb, hml, hown, hr, hlocks, hT⟩ := id X
  intro H locs ls hH hS hl
  unfold fX8_downFrom_0 at h
  refine lv_iconst (v := (0 : Int32)) hx hb dX8_downFrom_0 (by decide) ?_
  refine lv_istore_n (lv' := [(2, .int (0 : Int32)), (0, .ref x0), (1, .int x1)]) hx hb dX8_downFrom_1 rfl hl (by decide) rfl (fun ls hl => ?_)
  refine lv_iload_n hx hb dX8_downFrom_2 rfl (lv_at hl 2 rfl) ?_
  refine lv_istore_n (lv' := [(3, .int x1), (2, .int (0 : Int32)), (0, .ref x0), (1, .int x1)]) hx hb dX8_downFrom_3 rfl hl (by decide) rfl (fun ls hl => ?_)
  exact uX8_downFrom_4 X h _ _ _ hH hS (lv_sub hl [2, 1, 0] rfl)
set_option maxRecDepth 100000 in
theorem kX8_downFrom {N : Nat} {r : Int32} {T : zS} {S : zS} {z : Nat} {x0 : Nat} {x1 : Int32} (h : fX8_downFrom N S x0 x1 = some (r, T)) : Met l yX8_downFrom [.code yX8_downFrom cX8_downFrom 4 (some .int)] { frames := 0, cells := 0, slots := 0, locals := 0 } (zP D cy A S z [.ref x0, .int x1]) (zQ D cy A T z (some (.int r))) 0 0 A := by
  refine z_met (lv := [(0, .ref x0), (1, .int x1)]) (by decide) (Nat.le_of_ble_eq_true rfl) rfl ?_
  intro p e s m below meth c X H locs ls hH hS hl
  exact wX8_downFrom_0 X h _ _ _ hH hS (lv_sub hl [0, 1] rfl)
set_option maxRecDepth 100000 in
set_option maxHeartbeats 4000000 in
theorem wX8_down_16 {z : Nat} {N : Nat} {r : Int32} {T : zS} (X : zX D cy p s m meth c cX8_down 2 RX8 (some .int))  {S : zS} {y0 : Int32} (h : fX8_down_16 N S y0 = some (r, T)) : zWt D cy A p l e { frames := 2, cells := 0, slots := 0, locals := 42 } s m args below meth c z 0 0 0 0 (zQ D cy A T z (some (.int r))) S 2 16 [] [.int y0] := by
  obtain ⟨hx, hb, hml, hown, hr, hlocks, hT⟩ := id X
  intro H locs ls hH hS hl
  unfold fX8_down_16 at h
  exact z_iret X hH hS h dX8_down_16
set_option maxRecDepth 100000 in
set_option maxHeartbeats 4000000 in
theorem wX8_down_0 {z : Nat} {N : Nat} {r : Int32} {T : zS} (X : zX D cy p s m meth c cX8_down 2 RX8 (some .int))  {S : zS} {x0 : Nat} {x1 : Int32} (h : fX8_down_0 N S x0 x1 = some (r, T)) : zWt D cy A p l e { frames := 2, cells := 0, slots := 0, locals := 42 } s m args below meth c z 0 0 0 0 (zQ D cy A T z (some (.int r))) S 2 0 [(0, .ref x0), (1, .int x1)] [] := by
  obtain ⟨hx, hb, hml, hown, hr, hlocks, hT⟩ := id X
  intro H locs ls hH hS hl
  unfold fX8_down_0 at h
  refine lv_iload_n hx hb dX8_down_0 rfl (lv_at hl 1 rfl) ?_
  obtain ⟨v2, S1, eS1, h⟩ := zb2_some h
  refine z_cS (As := [.int x1]) X hl hH hS mlX8_218 (kX8_isMaker eS1) rfl rfl (Nat.le_of_ble_eq_true rfl) ⟨rfl, rfl, Nat.le_of_ble_eq_true rfl, Nat.le_of_ble_eq_true rfl⟩ ⟨Nat.le_refl _, Nat.le_refl _⟩ dX8_down_1 (fun H locs hH hS => ?_)
  refine lv_if_eq (tgt := 15) hx hb dX8_down_4 (by decide) (fun c => ?_) (fun c => ?_)
  · have h := (if_pos c).symm.trans h
    refine lv_iconst (v := (-1 : Int32)) hx hb dX8_down_15 (by decide) ?_
    exact wX8_down_16 X h _ _ _ hH hS (lv_sub hl [] rfl)
  · have h := (if_neg c).symm.trans h
    refine lv_aload_n hx hb dX8_down_7 rfl (lv_at hl 0 rfl) ?_
    refine lv_iload_n hx hb dX8_down_8 rfl (lv_at hl 1 rfl) ?_
    obtain ⟨u3, eu3, h⟩ := zb_some h
    obtain ⟨v5, S4, eS4, h⟩ := zb2_some h
    refine z_cV (As := [.int x1]) X hl hH hS mlX8_221 eu3 (kX8_downFrom eS4) rfl rfl (Nat.le_of_ble_eq_true rfl) ⟨rfl, rfl, Nat.le_of_ble_eq_true rfl, Nat.le_of_ble_eq_true rfl⟩ ⟨Nat.le_refl _, Nat.le_refl _⟩ dX8_down_9 (fun H locs hH hS => ?_)
    refine lv_goto (tgt := 16) hx hb dX8_down_12 (by decide) ?_
    exact wX8_down_16 X h _ _ _ hH hS (lv_sub hl [] rfl)
set_option maxRecDepth 100000 in
theorem kX8_down {N : Nat} {r : Int32} {T : zS} {S : zS} {z : Nat} {x0 : Nat} {x1 : Int32} (h : fX8_down N S x0 x1 = some (r, T)) : Met l yX8_down [.code yX8_down cX8_down 2 (some .int)] { frames := 2, cells := 0, slots := 0, locals := 42 } (zP D cy A S z [.ref x0, .int x1]) (zQ D cy A T z (some (.int r))) 0 0 A := by
  refine z_met (lv := [(0, .ref x0), (1, .int x1)]) (by decide) (Nat.le_of_ble_eq_true rfl) rfl ?_
  intro p e s m below meth c X H locs ls hH hS hl
  exact wX8_down_0 X h _ _ _ hH hS (lv_sub hl [0, 1] rfl)
set_option maxRecDepth 100000 in
set_option maxHeartbeats 4000000 in
theorem wX8_walk_89 {z : Nat} {N : Nat} {r : Int32} {T : zS} (X : zX D cy p s m meth c cX8_walk 3 RX8 (some .int))  {S : zS} {y0 : Int32} (h : fX8_walk_89 N S y0 = some (r, T)) : zWt D cy A p l e { frames := 0, cells := 0, slots := 0, locals := 0 } s m args below meth c z 0 0 0 0 (zQ D cy A T z (some (.int r))) S 3 89 [] [.int y0] := by
  obtain ⟨hx, hb, hml, hown, hr, hlocks, hT⟩ := id X
  intro H locs ls hH hS hl
  unfold fX8_walk_89 at h
  exact z_iret X hH hS h dX8_walk_89
set_option maxRecDepth 100000 in
set_option maxHeartbeats 4000000 in
theorem wX8_walk_70 {z : Nat} {N : Nat} {r : Int32} {T : zS} (X : zX D cy p s m meth c cX8_walk 3 RX8 (some .int))  {S : zS} {x0 : Nat} {x2 : Int32} (h : fX8_walk_70 N S x0 x2 = some (r, T)) : zWt D cy A p l e { frames := 0, cells := 0, slots := 0, locals := 0 } s m args below meth c z 0 0 0 0 (zQ D cy A T z (some (.int r))) S 3 70 [(0, .ref x0), (2, .int x2)] [] := by
  obtain ⟨hx, hb, hml, hown, hr, hlocks, hT⟩ := id X
  intro H locs ls hH hS hl
  unfold fX8_walk_70 at h
  refine lv_aload_n hx hb dX8_walk_70 rfl (lv_at hl 0 rfl) ?_
  obtain ⟨v1, ev1, h⟩ := zb_some h
  refine z_getr X flX8_80 hH ev1 dX8_walk_71 ?_
  refine lv_iload_n hx hb dX8_walk_74 rfl (lv_at hl 1 rfl) ?_
  obtain ⟨v2, ev2, h⟩ := zb_some h
  refine z_iald X hH ev2 dX8_walk_75 ?_
  refine lv_if_ge (tgt := 83) hx hb dX8_walk_76 (by decide) (fun c => ?_) (fun c => ?_)
  · have h := (if_pos c).symm.trans h
    refine lv_aload_n hx hb dX8_walk_83 rfl (lv_at hl 0 rfl) ?_
    obtain ⟨v3, ev3, h⟩ := zb_some h
    refine z_getr X flX8_80 hH ev3 dX8_walk_84 ?_
    refine lv_iload_n hx hb dX8_walk_87 rfl (lv_at hl 1 rfl) ?_
    obtain ⟨v4, ev4, h⟩ := zb_some h
    refine z_iald X hH ev4 dX8_walk_88 ?_
    exact wX8_walk_89 X h _ _ _ hH hS (lv_sub hl [] rfl)
  · have h := (if_neg c).symm.trans h
    refine lv_iload_n hx hb dX8_walk_79 rfl (lv_at hl 1 rfl) ?_
    refine lv_goto (tgt := 89) hx hb dX8_walk_80 (by decide) ?_
    exact wX8_walk_89 X h _ _ _ hH hS (lv_sub hl [] rfl)
set_option maxRecDepth 100000 in
set_option maxHeartbeats 4000000 in
theorem wX8_walk_30 {z : Nat} {N : Nat} {r : Int32} {T : zS} (X : zX D cy p s m meth c cX8_walk 3 RX8 (some .int)) {K30 : zS × Nat × Int32 → Option (Int32 × zS)} (hK30 : ∀ (S : zS) (x0 : Nat) (x2 : Int32), K30 (S, x0, x2) = some (r, T) → zWt D cy A p l e { frames := 0, cells := 0, slots := 0, locals := 0 } s m args below meth c z 0 0 0 0 (zQ D cy A T z (some (.int r))) S 3 30 [(0, .ref x0), (2, .int x2)] []) {S : zS} {x0 : Nat} {x2 : Int32} (h : fX8_walk_30 N K30 S x0 x2 = some (r, T)) : zWt D cy A p l e { frames := 0, cells := 0, slots := 0, locals := 0 } s m args below meth c z 0 0 0 0 (zQ D cy A T z (some (.int r))) S 3 30 [(0, .ref x0), (2, .int x2)] [] := by
  obtain ⟨hx, hb, hml, hown, hr, hlocks, hT⟩ := id X
  intro H locs ls hH hS hl
  unfold fX8_walk_30 at h
  refine lv_aload_n hx hb dX8_walk_30 rfl (lv_at hl 0 rfl) ?_
  obtain ⟨v5, ev5, h⟩ := zb_some h
  refine z_getr X flX8_80 hH ev5 dX8_walk_31 ?_
  refine lv_iload_n hx hb dX8_walk_34 rfl (lv_at hl 1 rfl) ?_
  obtain ⟨v6, ev6, h⟩ := zb_some h
  refine z_iald X hH ev6 dX8_walk_35 ?_
  refine lv_if_lt (tgt := 70) hx hb dX8_walk_36 (by decide) (fun c => ?_) (fun c => ?_)
  · have h := (if_pos c).symm.trans h
    exact wX8_walk_70 X h _ _ _ hH hS (lv_sub hl [0, 1] rfl)
  · have h := (if_neg c).symm.trans h
    refine lv_aload_n hx hb dX8_walk_39 rfl (lv_at hl 0 rfl) ?_
    obtain ⟨v7, ev7, h⟩ := zb_some h
    refine z_getr X flX8_89 hH ev7 dX8_walk_40 ?_
    refine lv_aload_n hx hb dX8_walk_43 rfl (lv_at hl 0 rfl) ?_
    obtain ⟨v8, ev8, h⟩ := zb_some h
    refine z_getr X flX8_80 hH ev8 dX8_walk_44 ?_
    refine lv_iload_n hx hb dX8_walk_47 rfl (lv_at hl 1 rfl) ?_
    obtain ⟨v9, ev9, h⟩ := zb_some h
    refine z_iald X hH ev9 dX8_walk_48 ?_
    obtain ⟨v10, ev10, h⟩ := zb_some h
    refine z_zald X hH ev10 dX8_walk_49 ?_
    refine lv_if_ne (tgt := 70) hx hb dX8_walk_50 (by decide) (fun c => ?_) (fun c => ?_)
    · have h := (if_neg c).symm.trans h
      exact wX8_walk_70 X h _ _ _ hH hS (lv_sub hl [0, 1] rfl)
    · have h := (if_pos c).symm.trans h
      refine lv_aload_n hx hb dX8_walk_53 rfl (lv_at hl 0 rfl) ?_
      obtain ⟨v11, ev11, h⟩ := zb_some h
      refine z_getr X flX8_80 hH ev11 dX8_walk_54 ?_
      refine lv_iload_n hx hb dX8_walk_57 rfl (lv_at hl 1 rfl) ?_
      obtain ⟨v12, ev12, h⟩ := zb_some h
      refine z_iald X hH ev12 dX8_walk_58 ?_
      refine lv_istore_n (lv' := [(2, .int v12), (0, .ref x0)]) hx hb dX8_walk_59 rfl hl (by decide) rfl (fun ls hl => ?_)
      refine lv_aload_n hx hb dX8_walk_60 rfl (lv_at hl 1 rfl) ?_
      obtain ⟨v13, ev13, h⟩ := zb_some h
      refine z_getr X flX8_89 hH ev13 dX8_walk_61 ?_
      refine lv_iload_n hx hb dX8_walk_64 rfl (lv_at hl 0 rfl) ?_
      refine lv_iconst (v := (1 : Int32)) hx hb dX8_walk_65 (by decide) ?_
      obtain ⟨S14, eS14, h⟩ := zb_some h
      refine z_zast X hH hS eS14 dX8_walk_66 (fun H locs hH hS => ?_)
      refine lv_goto (tgt := 30) hx hb dX8_walk_67 (by decide) ?_
      exact hK30 _ _ _ h _ _ _ hH hS (lv_sub hl [1, 0] rfl)
set_option maxRecDepth 100000 in
set_option maxHeartbeats 4000000 in
theorem uX8_walk_30 {z : Nat} {N : Nat} {r : Int32} {T : zS} (X : zX D cy p s m meth c cX8_walk 3 RX8 (some .int))  {S : zS} {x0 : Nat} {x2 : Int32} (h : lX8_walk_30 N S x0 x2 = some (r, T)) : zWt D cy A p l e { frames := 0, cells := 0, slots := 0, locals := 0 } s m args below meth c z 0 0 0 0 (zQ D cy A T z (some (.int r))) S 3 30 [(0, .ref x0), (2, .int x2)] [] := by
  unfold lX8_walk_30 at h
  refine zloop_ind (P := fun y => zWt D cy A p l e { frames := 0, cells := 0, slots := 0, locals := 0 } s m args below meth c z 0 0 0 0 (zQ D cy A T z (some (.int r))) y.1 3 30 [(0, .ref y.2.1), (2, .int y.2.2)] []) ?_ N (S, x0, x2) h
  intro K hK y hy
  obtain ⟨S, x0, x2⟩ := y
  exact wX8_walk_30 X (fun S x0 x2 hq => hK (S, x0, x2) hq) hy
set_option maxRecDepth 100000 in
set_option maxHeartbeats 4000000 in
theorem wX8_walk_2 {z : Nat} {N : Nat} {r : Int32} {T : zS} (X : zX D cy p s m meth c cX8_walk 3 RX8 (some .int)) {K2 : zS × Nat × Int32 × Int32 → Option (Int32 × zS)} (hK2 : ∀ (S : zS) (x0 : Nat) (x1 : Int32) (x2 : Int32), K2 (S, x0, x1, x2) = some (r, T) → zWt D cy A p l e { frames := 0, cells := 0, slots := 0, locals := 0 } s m args below meth c z 0 0 0 0 (zQ D cy A T z (some (.int r))) S 3 2 [(0, .ref x0), (1, .int x1), (2, .int x2)] []) {S : zS} {x0 : Nat} {x1 : Int32} {x2 : Int32} (h : fX8_walk_2 N K2 S x0 x1 x2 = some (r, T)) : zWt D cy A p l e { frames := 0, cells := 0, slots := 0, locals := 0 } s m args below meth c z 0 0 0 0 (zQ D cy A T z (some (.int r))) S 3 2 [(0, .ref x0), (1, .int x1), (2, .int x2)] [] := by
  obtain ⟨hx, hb, hml, hown, hr, hlocks, hT⟩ := id X
  intro H locs ls hH hS hl
  unfold fX8_walk_2 at h
  refine lv_iload_n hx hb dX8_walk_2 rfl (lv_at hl 2 rfl) ?_
  refine lv_bipush (v := (30 : Int32)) hx hb dX8_walk_3 (by decide) ?_
  refine lv_icmp_ge (tgt := 21) hx hb dX8_walk_5 (by decide) (fun c => ?_) (fun c => ?_)
  · have h := (if_pos c).symm.trans h
    refine lv_iload_n hx hb dX8_walk_21 rfl (lv_at hl 1 rfl) ?_
    refine lv_istore_n (lv' := [(2, .int x1), (0, .ref x0), (1, .int x1)]) hx hb dX8_walk_22 rfl hl (by decide) rfl (fun ls hl => ?_)
    refine lv_aload_n hx hb dX8_walk_23 rfl (lv_at hl 1 rfl) ?_
    obtain ⟨v15, ev15, h⟩ := zb_some h
    refine z_getr X flX8_89 hH ev15 dX8_walk_24 ?_
    refine lv_iload_n hx hb dX8_walk_27 rfl (lv_at hl 2 rfl) ?_
    refine lv_iconst (v := (1 : Int32)) hx hb dX8_walk_28 (by decide) ?_
    obtain ⟨S16, eS16, h⟩ := zb_some h
    refine z_zast X hH hS eS16 dX8_walk_29 (fun H locs hH hS => ?_)
    exact uX8_walk_30 X h _ _ _ hH hS (lv_sub hl [1, 0] rfl)
  · have h := (if_neg c).symm.trans h
    refine lv_aload_n hx hb dX8_walk_8 rfl (lv_at hl 0 rfl) ?_
    obtain ⟨v17, ev17, h⟩ := zb_some h
    refine z_getr X flX8_89 hH ev17 dX8_walk_9 ?_
    refine lv_iload_n hx hb dX8_walk_12 rfl (lv_at hl 2 rfl) ?_
    refine lv_iconst (v := (0 : Int32)) hx hb dX8_walk_13 (by decide) ?_
    obtain ⟨S18, eS18, h⟩ := zb_some h
    refine z_zast X hH hS eS18 dX8_walk_14 (fun H locs hH hS => ?_)
    refine lv_iinc (v := (x2 + (1 : Int32))) (lv' := [(2, .int (x2 + (1 : Int32))), (0, .ref x0), (1, .int x1)]) hx hb dX8_walk_15 hl (k := 2) rfl (z_ii (by decide) _) (by decide) rfl (fun ls hl => ?_)
    refine lv_goto (tgt := 2) hx hb dX8_walk_18 (by decide) ?_
    exact hK2 _ _ _ _ h _ _ _ hH hS (lv_sub hl [1, 2, 0] rfl)
set_option maxRecDepth 100000 in
set_option maxHeartbeats 4000000 in
theorem uX8_walk_2 {z : Nat} {N : Nat} {r : Int32} {T : zS} (X : zX D cy p s m meth c cX8_walk 3 RX8 (some .int))  {S : zS} {x0 : Nat} {x1 : Int32} {x2 : Int32} (h : lX8_walk_2 N S x0 x1 x2 = some (r, T)) : zWt D cy A p l e { frames := 0, cells := 0, slots := 0, locals := 0 } s m args below meth c z 0 0 0 0 (zQ D cy A T z (some (.int r))) S 3 2 [(0, .ref x0), (1, .int x1), (2, .int x2)] [] := by
  unfold lX8_walk_2 at h
  refine zloop_ind (P := fun y => zWt D cy A p l e { frames := 0, cells := 0, slots := 0, locals := 0 } s m args below meth c z 0 0 0 0 (zQ D cy A T z (some (.int r))) y.1 3 2 [(0, .ref y.2.1), (1, .int y.2.2.1), (2, .int y.2.2.2)] []) ?_ N (S, x0, x1, x2) h
  intro K hK y hy
  obtain ⟨S, x0, x1, x2⟩ := y
  exact wX8_walk_2 X (fun S x0 x1 x2 hq => hK (S, x0, x1, x2) hq) hy
set_option maxRecDepth 100000 in
set_option maxHeartbeats 4000000 in
theorem wX8_walk_0 {z : Nat} {N : Nat} {r : Int32} {T : zS} (X : zX D cy p s m meth c cX8_walk 3 RX8 (some .int))  {S : zS} {x0 : Nat} {x1 : Int32} (h : fX8_walk_0 N S x0 x1 = some (r, T)) : zWt D cy A p l e { frames := 0, cells := 0, slots := 0, locals := 0 } s m args below meth c z 0 0 0 0 (zQ D cy A T z (some (.int r))) S 3 0 [(0, .ref x0), (1, .int x1)] [] := by
  obtain ⟨hx, hb, hml, hown, hr, hlocks, hT⟩ := id X
  intro H locs ls hH hS hl
  unfold fX8_walk_0 at h
  refine lv_iconst (v := (0 : Int32)) hx hb dX8_walk_0 (by decide) ?_
  refine lv_istore_n (lv' := [(2, .int (0 : Int32)), (0, .ref x0), (1, .int x1)]) hx hb dX8_walk_1 rfl hl (by decide) rfl (fun ls hl => ?_)
  exact uX8_walk_2 X h _ _ _ hH hS (lv_sub hl [1, 2, 0] rfl)
set_option maxRecDepth 100000 in
theorem kX8_walk {N : Nat} {r : Int32} {T : zS} {S : zS} {z : Nat} {x0 : Nat} {x1 : Int32} (h : fX8_walk N S x0 x1 = some (r, T)) : Met l yX8_walk [.code yX8_walk cX8_walk 3 (some .int)] { frames := 0, cells := 0, slots := 0, locals := 0 } (zP D cy A S z [.ref x0, .int x1]) (zQ D cy A T z (some (.int r))) 0 0 A := by
  refine z_met (lv := [(0, .ref x0), (1, .int x1)]) (by decide) (Nat.le_of_ble_eq_true rfl) rfl ?_
  intro p e s m below meth c X H locs ls hH hS hl
  exact wX8_walk_0 X h _ _ _ hH hS (lv_sub hl [0, 1] rfl)
end
