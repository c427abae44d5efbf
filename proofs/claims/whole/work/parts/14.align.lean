section
variable {D : va_G} {cy : Nat → ClassId} {A : Nat → Prop} {p : Program} {l : Launch} {e : Env} {s : State} {m : MethodId} {args : Array Value} {below : List Frame} {meth : Method} {c : Code}
set_option maxRecDepth 100000 in
set_option maxHeartbeats 4000000 in
theorem wX0_chooseMove_95 {z : Nat} {N : Nat} {T : zS} (X : zX D cy p s m meth c cX0_chooseMove 10 RX0 none)  {S : zS} {x0 : Nat} {x1 : Int32} {x2 : Int32} {x7 : Int32} (h : rX0_chooseMove_95 N S x0 x1 x2 x7 = some T) : zWt D cy A p l e { frames := 1, cells := 0, slots := 0, locals := 21 } s m args below meth c z 0 0 0 0 (zQ D cy A T z none) S 10 95 [(0, .ref x0), (1, .int x1), (2, .int x2), (7, .int x7)] [] := by
  obtain ⟨hx, hb, hml, hown, hr, hlocks, hT⟩ := id X
  intro H locs ls hH hS hl
  unfold rX0_chooseMove_95 at h
  refine lv_iload_n hx hb dX0_chooseMove_95 rfl (lv_at hl 1 rfl) ?_
  refine lv_sipush (v := (200 : Int32)) hx hb dX0_chooseMove_96 (by decide) ?_
  refine lv_imul hx hb dX0_chooseMove_99 ?_
  refine lv_iload_n hx hb dX0_chooseMove_100 rfl (lv_at hl 2 rfl) ?_
  refine lv_iadd hx hb dX0_chooseMove_101 ?_
  refine lv_istore (lv' := [(8, .int ((x1 * (200 : Int32)) + x2)), (0, .ref x0), (1, .int x1), (2, .int x2), (7, .int x7)]) hx hb dX0_chooseMove_102 hl (by decide) rfl (fun ls hl => ?_)
  refine lv_iload hx hb dX0_chooseMove_104 (lv_at hl 0 rfl) ?_
  refine lv_bipush (v := (15 : Int32)) hx hb dX0_chooseMove_106 (by decide) ?_
  refine lv_iand hx hb dX0_chooseMove_108 ?_
  refine lv_iconst (v := (2 : Int32)) hx hb dX0_chooseMove_109 (by decide) ?_
  refine lv_imul hx hb dX0_chooseMove_110 ?_
  refine lv_topi (fun v1 ev1 => ?_)
  have h := zlet_at ev1 h
  refine lv_istore (lv' := [(9, .int v1), (8, .int ((x1 * (200 : Int32)) + x2)), (0, .ref x0), (1, .int x1), (2, .int x2), (7, .int x7)]) hx hb dX0_chooseMove_111 hl (by decide) rfl (fun ls hl => ?_)
  refine lv_aload_n hx hb dX0_chooseMove_113 rfl (lv_at hl 2 rfl) ?_
  obtain ⟨v2, ev2, h⟩ := zb_some h
  refine z_getr X flX0_21 hH ev2 dX0_chooseMove_114 ?_
  refine lv_iload hx hb dX0_chooseMove_117 (lv_at hl 1 rfl) ?_
  refine lv_iconst (v := (4 : Int32)) hx hb dX0_chooseMove_119 (by decide) ?_
  refine lv_ishr hx hb dX0_chooseMove_120 ?_
  refine lv_aload_n hx hb dX0_chooseMove_121 rfl (lv_at hl 2 rfl) ?_
  obtain ⟨v3, ev3, h⟩ := zb_some h
  refine z_getr X flX0_21 hH ev3 dX0_chooseMove_122 ?_
  refine lv_iload hx hb dX0_chooseMove_125 (lv_at hl 1 rfl) ?_
  refine lv_iconst (v := (4 : Int32)) hx hb dX0_chooseMove_127 (by decide) ?_
  refine lv_ishr hx hb dX0_chooseMove_128 ?_
  obtain ⟨v4, ev4, h⟩ := zb_some h
  refine z_iald X hH ev4 dX0_chooseMove_129 ?_
  refine lv_iconst (v := (3 : Int32)) hx hb dX0_chooseMove_130 (by decide) ?_
  refine lv_iload hx hb dX0_chooseMove_131 (lv_at hl 0 rfl) ?_
  refine lv_ishl hx hb dX0_chooseMove_133 ?_
  refine lv_iconst (v := (-1 : Int32)) hx hb dX0_chooseMove_134 (by decide) ?_
  refine lv_ixor hx hb dX0_chooseMove_135 ?_
  refine lv_iand hx hb dX0_chooseMove_136 ?_
  refine lv_iload hx hb dX0_chooseMove_137 (lv_at hl 5 rfl) ?_
  refine lv_iload hx hb dX0_chooseMove_139 (lv_at hl 0 rfl) ?_
  refine lv_ishl hx hb dX0_chooseMove_141 ?_
  refine lv_ior hx hb dX0_chooseMove_142 ?_
  obtain ⟨S5, eS5, h⟩ := zb_some h
  refine z_iast X hH hS eS5 dX0_chooseMove_143 (fun H locs hH hS => ?_)
  exact z_vret X hH hS h dX0_chooseMove_144
set_option maxRecDepth 100000 in
set_option maxHeartbeats 4000000 in
theorem wX0_chooseMove_93 {z : Nat} {N : Nat} {T : zS} (X : zX D cy p s m meth c cX0_chooseMove 10 RX0 none)  {S : zS} {x0 : Nat} {x1 : Int32} {x2 : Int32} {y0 : Int32} (h : rX0_chooseMove_93 N S x0 x1 x2 y0 = some T) : zWt D cy A p l e { frames := 1, cells := 0, slots := 0, locals := 21 } s m args below meth c z 0 0 0 0 (zQ D cy A T z none) S 10 93 [(0, .ref x0), (1, .int x1), (2, .int x2)] [.int y0] := by
  obtain ⟨hx, hb, hml, hown, hr, hlocks, hT⟩ := id X
  intro H locs ls hH hS hl
  unfold rX0_chooseMove_93 at h
  refine lv_istore (lv' := [(7, .int y0), (0, .ref x0), (1, .int x1), (2, .int x2)]) hx hb dX0_chooseMove_93 hl (by decide) rfl (fun ls hl => ?_)
  exact wX0_chooseMove_95 X h _ _ _ hH hS (lv_sub hl [1, 2, 3, 0] rfl)
set_option maxRecDepth 100000 in
set_option maxHeartbeats 4000000 in
theorem wX0_chooseMove_0 {z : Nat} {N : Nat} {T : zS} (X : zX D cy p s m meth c cX0_chooseMove 10 RX0 none)  {S : zS} {x0 : Nat} {x1 : Int32} {x2 : Int32} {x3 : Int32} (h : rX0_chooseMove_0 N S x0 x1 x2 x3 = some T) : zWt D cy A p l e { frames := 1, cells := 0, slots := 0, locals := 21 } s m args below meth c z 0 0 0 0 (zQ D cy A T z none) S 10 0 [(0, .ref x0), (1, .int x1), (2, .int x2), (3, .int x3)] [] := by
  obtain ⟨hx, hb, hml, hown, hr, hlocks, hT⟩ := id X
  intro H locs ls hH hS hl
  unfold rX0_chooseMove_0 at h
  refine lv_aload_n hx hb dX0_chooseMove_0 rfl (lv_at hl 0 rfl) ?_
  obtain ⟨v6, ev6, h⟩ := zb_some h
  refine z_getr X flX0_27 hH ev6 dX0_chooseMove_1 ?_
  refine lv_iload_n hx hb dX0_chooseMove_4 rfl (lv_at hl 2 rfl) ?_
  refine lv_iconst (v := (1 : Int32)) hx hb dX0_chooseMove_5 (by decide) ?_
  refine lv_iadd hx hb dX0_chooseMove_6 ?_
  obtain ⟨v7, ev7, h⟩ := zb_some h
  refine z_iald X hH ev7 dX0_chooseMove_7 ?_
  refine lv_istore (lv' := [(4, .int v7), (0, .ref x0), (1, .int x1), (2, .int x2), (3, .int x3)]) hx hb dX0_chooseMove_8 hl (by decide) rfl (fun ls hl => ?_)
  refine lv_aload_n hx hb dX0_chooseMove_10 rfl (lv_at hl 1 rfl) ?_
  obtain ⟨v8, ev8, h⟩ := zb_some h
  refine z_getr X flX0_27 hH ev8 dX0_chooseMove_11 ?_
  refine lv_iload_n hx hb dX0_chooseMove_14 rfl (lv_at hl 3 rfl) ?_
  obtain ⟨v9, ev9, h⟩ := zb_some h
  refine z_iald X hH ev9 dX0_chooseMove_15 ?_
  refine lv_istore (lv' := [(5, .int v9), (4, .int v7), (0, .ref x0), (1, .int x1), (2, .int x2), (3, .int x3)]) hx hb dX0_chooseMove_16 hl (by decide) rfl (fun ls hl => ?_)
  refine lv_aload_n hx hb dX0_chooseMove_18 rfl (lv_at hl 2 rfl) ?_
  obtain ⟨v10, ev10, h⟩ := zb_some h
  refine z_getr X flX0_24 hH ev10 dX0_chooseMove_19 ?_
  refine lv_iload_n hx hb dX0_chooseMove_22 rfl (lv_at hl 4 rfl) ?_
  refine lv_iconst (v := (1 : Int32)) hx hb dX0_chooseMove_23 (by decide) ?_
  refine lv_iadd hx hb dX0_chooseMove_24 ?_
  obtain ⟨v11, ev11, h⟩ := zb_some h
  refine z_iald X hH ev11 dX0_chooseMove_25 ?_
  refine lv_istore (lv' := [(6, .int v11), (5, .int v9), (4, .int v7), (0, .ref x0), (1, .int x1), (2, .int x2), (3, .int x3)]) hx hb dX0_chooseMove_26 hl (by decide) rfl (fun ls hl => ?_)
  refine lv_iconst (v := (3 : Int32)) hx hb dX0_chooseMove_28 (by decide) ?_
  refine lv_istore (lv' := [(7, .int (3 : Int32)), (6, .int v11), (5, .int v9), (4, .int v7), (0, .ref x0), (1, .int x1), (2, .int x2), (3, .int x3)]) hx hb dX0_chooseMove_29 hl (by decide) rfl (fun ls hl => ?_)
  refine lv_iload_n hx hb dX0_chooseMove_31 rfl (lv_at hl 7 rfl) ?_
  refine lv_if_eq (tgt := 46) hx hb dX0_chooseMove_32 (by decide) (fun c => ?_) (fun c => ?_)
  · have h := (if_pos c).symm.trans h
    refine lv_iload hx hb dX0_chooseMove_46 (lv_at hl 3 rfl) ?_
    refine lv_iload hx hb dX0_chooseMove_48 (lv_at hl 2 rfl) ?_
    refine lv_iload hx hb dX0_chooseMove_50 (lv_at hl 1 rfl) ?_
    refine z_min X hl mlX0_47 (Nat.le_of_ble_eq_true rfl) (Nat.le_of_ble_eq_true rfl) (Nat.zero_le _) (Nat.zero_le _) dX0_chooseMove_52 ?_
    refine z_min X hl mlX0_47 (Nat.le_of_ble_eq_true rfl) (Nat.le_of_ble_eq_true rfl) (Nat.zero_le _) (Nat.zero_le _) dX0_chooseMove_55 ?_
    refine lv_topi (fun v12 ev12 => ?_)
    have h := zlet_at ev12 h
    refine lv_istore (lv' := [(8, .int v12), (7, .int (3 : Int32)), (6, .int v11), (5, .int v9), (4, .int v7), (0, .ref x0), (1, .int x1), (2, .int x2), (3, .int x3)]) hx hb dX0_chooseMove_58 hl (by decide) rfl (fun ls hl => ?_)
    refine lv_aload_n hx hb dX0_chooseMove_60 rfl (lv_at hl 5 rfl) ?_
    obtain ⟨v13, ev13, h⟩ := zb_some h
    refine z_getr X flX0_24 hH ev13 dX0_chooseMove_61 ?_
    refine lv_iload_n hx hb dX0_chooseMove_64 rfl (lv_at hl 7 rfl) ?_
    refine lv_iload hx hb dX0_chooseMove_65 (lv_at hl 0 rfl) ?_
    refine lv_iconst (v := (1 : Int32)) hx hb dX0_chooseMove_67 (by decide) ?_
    refine lv_iadd hx hb dX0_chooseMove_68 ?_
    obtain ⟨S14, eS14, h⟩ := zb_some h
    refine z_iast X hH hS eS14 dX0_chooseMove_69 (fun H locs hH hS => ?_)
    refine lv_iload hx hb dX0_chooseMove_70 (lv_at hl 4 rfl) ?_
    refine lv_iload hx hb dX0_chooseMove_72 (lv_at hl 0 rfl) ?_
    refine lv_icmp_ne (tgt := 81) hx hb dX0_chooseMove_74 (by decide) (fun c => ?_) (fun c => ?_)
    · have h := (if_neg c).symm.trans h
      refine lv_iload hx hb dX0_chooseMove_81 (lv_at hl 3 rfl) ?_
      refine lv_iload hx hb dX0_chooseMove_83 (lv_at hl 0 rfl) ?_
      refine lv_icmp_ne (tgt := 92) hx hb dX0_chooseMove_85 (by decide) (fun c => ?_) (fun c => ?_)
      · have h := (if_neg c).symm.trans h
        refine lv_iconst (v := (2 : Int32)) hx hb dX0_chooseMove_92 (by decide) ?_
        exact wX0_chooseMove_93 X h _ _ _ hH hS (lv_sub hl [5, 6, 7] rfl)
      · have h := (if_pos c).symm.trans h
        refine lv_iconst (v := (1 : Int32)) hx hb dX0_chooseMove_88 (by decide) ?_
        refine lv_goto (tgt := 93) hx hb dX0_chooseMove_89 (by decide) ?_
        exact wX0_chooseMove_93 X h _ _ _ hH hS (lv_sub hl [5, 6, 7] rfl)
    · have h := (if_pos c).symm.trans h
      refine lv_iconst (v := (0 : Int32)) hx hb dX0_chooseMove_77 (by decide) ?_
      refine lv_goto (tgt := 93) hx hb dX0_chooseMove_78 (by decide) ?_
      exact wX0_chooseMove_93 X h _ _ _ hH hS (lv_sub hl [5, 6, 7] rfl)
  · have h := (if_neg c).symm.trans h
    refine lv_aload_n hx hb dX0_chooseMove_35 rfl (lv_at hl 4 rfl) ?_
    obtain ⟨v15, ev15, h⟩ := zb_some h
    refine z_getr X flX0_24 hH ev15 dX0_chooseMove_36 ?_
    refine lv_iload_n hx hb dX0_chooseMove_39 rfl (lv_at hl 6 rfl) ?_
    refine lv_iload hx hb dX0_chooseMove_40 (lv_at hl 3 rfl) ?_
    obtain ⟨S16, eS16, h⟩ := zb_some h
    refine z_iast X hH hS eS16 dX0_chooseMove_42 (fun H locs hH hS => ?_)
    refine lv_goto (tgt := 95) hx hb dX0_chooseMove_43 (by decide) ?_
    exact wX0_chooseMove_95 X h _ _ _ hH hS (lv_sub hl [4, 5, 6, 0] rfl)
set_option maxRecDepth 100000 in
theorem kX0_chooseMove {N : Nat} {T : zS} {S : zS} {z : Nat} {x0 : Nat} {x1 : Int32} {x2 : Int32} {x3 : Int32} (h : rX0_chooseMove N S x0 x1 x2 x3 = some T) : Met l yX0_chooseMove [.code yX0_chooseMove cX0_chooseMove 10 none] { frames := 1, cells := 0, slots := 0, locals := 21 } (zP D cy A S z [.ref x0, .int x1, .int x2, .int x3]) (zQ D cy A T z none) 0 0 A := by
  refine z_met (lv := [(0, .ref x0), (1, .int x1), (2, .int x2), (3, .int x3)]) (by decide) (Nat.le_of_ble_eq_true rfl) rfl ?_
  intro p e s m below meth c X H locs ls hH hS hl
  exact wX0_chooseMove_0 X h _ _ _ hH hS (lv_sub hl [0, 1, 2, 3] rfl)
set_option maxRecDepth 100000 in
set_option maxHeartbeats 4000000 in
theorem wX0_chooseMoves_123 {z : Nat} {N : Nat} {T : zS} (X : zX D cy p s m meth c cX0_chooseMoves 7 RX0 none) {K40 : zS × Nat × Nat × Nat × Int32 × Int32 → Option (zS)} (hK40 : ∀ (S : zS) (x0 : Nat) (x1 : Nat) (x2 : Nat) (x3 : Int32) (x4 : Int32), K40 (S, x0, x1, x2, x3, x4) = some T → zWt D cy A p l e { frames := 2, cells := 0, slots := 0, locals := 50 } s m args below meth c z 0 0 0 0 (zQ D cy A T z none) S 7 40 [(0, .ref x0), (1, .ref x1), (2, .ref x2), (3, .int x3), (4, .int x4)] []) {K90 : zS × Nat × Nat × Nat × Int32 × Int32 × Int32 → Option (zS)} (hK90 : ∀ (S : zS) (x0 : Nat) (x1 : Nat) (x2 : Nat) (x3 : Int32) (x4 : Int32) (x6 : Int32), K90 (S, x0, x1, x2, x3, x4, x6) = some T → zWt D cy A p l e { frames := 2, cells := 0, slots := 0, locals := 50 } s m args below meth c z 0 0 0 0 (zQ D cy A T z none) S 7 90 [(0, .ref x0), (1, .ref x1), (2, .ref x2), (3, .int x3), (4, .int x4), (6, .int x6)] []) {S : zS} {x0 : Nat} {x1 : Nat} {x2 : Nat} {x3 : Int32} {x4 : Int32} {x6 : Int32} {y0 : Nat} {y1 : Int32} {y2 : Int32} {y3 : Int32} (h : rX0_chooseMoves_123 N K40 K90 S x0 x1 x2 x3 x4 x6 y0 y1 y2 y3 = some T) : zWt D cy A p l e { frames := 2, cells := 0, slots := 0, locals := 50 } s m args below meth c z 0 0 0 0 (zQ D cy A T z none) S 7 123 [(0, .ref x0), (1, .ref x1), (2, .ref x2), (3, .int x3), (4, .int x4), (6, .int x6)] [.int y3, .int y2, .int y1, .ref y0] := by
  obtain ⟨hx, hb, hml, hown, hr, hlocks, hT⟩ := id X
  intro H locs ls hH hS hl
  unfold rX0_chooseMoves_123 at h
  obtain ⟨u1, eu1, h⟩ := zb_some h
  obtain ⟨S2, eS2, h⟩ := zb_some h
  refine z_cV (As := [.int y1, .int y2, .int y3]) X hl hH hS mlX0_56 eu1 (kX0_chooseMove eS2) rfl rfl (Nat.le_of_ble_eq_true rfl) ⟨rfl, rfl, Nat.le_of_ble_eq_true rfl, Nat.le_of_ble_eq_true rfl⟩ ⟨Nat.le_refl _, Nat.le_refl _⟩ dX0_chooseMoves_123 (fun H locs hH hS => ?_)
  refine lv_iinc (v := (x6 + (-1 : Int32))) (lv' := [(6, .int (x6 + (-1 : Int32))), (0, .ref x0), (1, .ref x1), (2, .ref x2), (3, .int x3), (4, .int x4)]) hx hb dX0_chooseMoves_126 hl (k := 5) rfl (z_ii (by decide) _) (by decide) rfl (fun ls hl => ?_)
  refine lv_goto (tgt := 90) hx hb dX0_chooseMoves_129 (by decide) ?_
  exact hK90 _ _ _ _ _ _ _ h _ _ _ hH hS (lv_sub hl [1, 2, 3, 4, 5, 0] rfl)
set_option maxRecDepth 100000 in
set_option maxHeartbeats 4000000 in
theorem wX0_chooseMoves_90 {z : Nat} {N : Nat} {T : zS} (X : zX D cy p s m meth c cX0_chooseMoves 7 RX0 none) {K40 : zS × Nat × Nat × Nat × Int32 × Int32 → Option (zS)} (hK40 : ∀ (S : zS) (x0 : Nat) (x1 : Nat) (x2 : Nat) (x3 : Int32) (x4 : Int32), K40 (S, x0, x1, x2, x3, x4) = some T → zWt D cy A p l e { frames := 2, cells := 0, slots := 0, locals := 50 } s m args below meth c z 0 0 0 0 (zQ D cy A T z none) S 7 40 [(0, .ref x0), (1, .ref x1), (2, .ref x2), (3, .int x3), (4, .int x4)] []) {K90 : zS × Nat × Nat × Nat × Int32 × Int32 × Int32 → Option (zS)} (hK90 : ∀ (S : zS) (x0 : Nat) (x1 : Nat) (x2 : Nat) (x3 : Int32) (x4 : Int32) (x6 : Int32), K90 (S, x0, x1, x2, x3, x4, x6) = some T → zWt D cy A p l e { frames := 2, cells := 0, slots := 0, locals := 50 } s m args below meth c z 0 0 0 0 (zQ D cy A T z none) S 7 90 [(0, .ref x0), (1, .ref x1), (2, .ref x2), (3, .int x3), (4, .int x4), (6, .int x6)] []) {S : zS} {x0 : Nat} {x1 : Nat} {x2 : Nat} {x3 : Int32} {x4 : Int32} {x6 : Int32} (h : rX0_chooseMoves_90 N K40 K90 S x0 x1 x2 x3 x4 x6 = some T) : zWt D cy A p l e { frames := 2, cells := 0, slots := 0, locals := 50 } s m args below meth c z 0 0 0 0 (zQ D cy A T z none) S 7 90 [(0, .ref x0), (1, .ref x1), (2, .ref x2), (3, .int x3), (4, .int x4), (6, .int x6)] [] := by
  obtain ⟨hx, hb, hml, hown, hr, hlocks, hT⟩ := id X
  intro H locs ls hH hS hl
  unfold rX0_chooseMoves_90 at h
  refine lv_iload hx hb dX0_chooseMoves_90 (lv_at hl 5 rfl) ?_
  refine lv_iload_n hx hb dX0_chooseMoves_92 rfl (lv_at hl 3 rfl) ?_
  refine lv_icmp_lt (tgt := 132) hx hb dX0_chooseMoves_93 (by decide) (fun c => ?_) (fun c => ?_)
  · have h := (if_pos c).symm.trans h
    refine lv_iinc (v := (x4 + (-1 : Int32))) (lv' := [(4, .int (x4 + (-1 : Int32))), (0, .ref x0), (1, .ref x1), (2, .ref x2), (3, .int x3), (6, .int x6)]) hx hb dX0_chooseMoves_132 hl (k := 4) rfl (z_ii (by decide) _) (by decide) rfl (fun ls hl => ?_)
    refine lv_goto (tgt := 40) hx hb dX0_chooseMoves_135 (by decide) ?_
    exact hK40 _ _ _ _ _ _ h _ _ _ hH hS (lv_sub hl [1, 2, 3, 4, 0] rfl)
  · have h := (if_neg c).symm.trans h
    refine lv_aload_n hx hb dX0_chooseMoves_96 rfl (lv_at hl 0 rfl) ?_
    refine lv_iload hx hb dX0_chooseMoves_97 (lv_at hl 4 rfl) ?_
    refine lv_iload hx hb dX0_chooseMoves_99 (lv_at hl 5 rfl) ?_
    refine lv_aload_n hx hb dX0_chooseMoves_101 rfl (lv_at hl 1 rfl) ?_
    obtain ⟨v3, ev3, h⟩ := zb_some h
    refine z_getr X flX0_53 hH ev3 dX0_chooseMoves_102 ?_
    refine lv_iload hx hb dX0_chooseMoves_105 (lv_at hl 4 rfl) ?_
    obtain ⟨v4, ev4, h⟩ := zb_some h
    refine z_iald X hH ev4 dX0_chooseMoves_107 ?_
    refine lv_aload_n hx hb dX0_chooseMoves_108 rfl (lv_at hl 2 rfl) ?_
    obtain ⟨v5, ev5, h⟩ := zb_some h
    refine z_getr X flX0_53 hH ev5 dX0_chooseMoves_109 ?_
    refine lv_iload hx hb dX0_chooseMoves_112 (lv_at hl 5 rfl) ?_
    obtain ⟨v6, ev6, h⟩ := zb_some h
    refine z_iald X hH ev6 dX0_chooseMoves_114 ?_
    refine lv_icmp_ne (tgt := 122) hx hb dX0_chooseMoves_115 (by decide) (fun c => ?_) (fun c => ?_)
    · have h := (if_neg c).symm.trans h
      refine lv_iconst (v := (0 : Int32)) hx hb dX0_chooseMoves_122 (by decide) ?_
      exact wX0_chooseMoves_123 X hK40 hK90 h _ _ _ hH hS (lv_sub hl [0, 1, 2, 3, 4, 5] rfl)
    · have h := (if_pos c).symm.trans h
      refine lv_iconst (v := (1 : Int32)) hx hb dX0_chooseMoves_118 (by decide) ?_
      refine lv_goto (tgt := 123) hx hb dX0_chooseMoves_119 (by decide) ?_
      exact wX0_chooseMoves_123 X hK40 hK90 h _ _ _ hH hS (lv_sub hl [0, 1, 2, 3, 4, 5] rfl)
set_option maxRecDepth 100000 in
set_option maxHeartbeats 4000000 in
theorem uX0_chooseMoves_90 {z : Nat} {N : Nat} {T : zS} (X : zX D cy p s m meth c cX0_chooseMoves 7 RX0 none) {K40 : zS × Nat × Nat × Nat × Int32 × Int32 → Option (zS)} (hK40 : ∀ (S : zS) (x0 : Nat) (x1 : Nat) (x2 : Nat) (x3 : Int32) (x4 : Int32), K40 (S, x0, x1, x2, x3, x4) = some T → zWt D cy A p l e { frames := 2, cells := 0, slots := 0, locals := 50 } s m args below meth c z 0 0 0 0 (zQ D cy A T z none) S 7 40 [(0, .ref x0), (1, .ref x1), (2, .ref x2), (3, .int x3), (4, .int x4)] []) {S : zS} {x0 : Nat} {x1 : Nat} {x2 : Nat} {x3 : Int32} {x4 : Int32} {x6 : Int32} (h : rlX0_chooseMoves_90 N K40 S x0 x1 x2 x3 x4 x6 = some T) : zWt D cy A p l e { frames := 2, cells := 0, slots := 0, locals := 50 } s m args below meth c z 0 0 0 0 (zQ D cy A T z none) S 7 90 [(0, .ref x0), (1, .ref x1), (2, .ref x2), (3, .int x3), (4, .int x4), (6, .int x6)] [] := by
  unfold rlX0_chooseMoves_90 at h
  refine zloop_ind (P := fun y => zWt D cy A p l e { frames := 2, cells := 0, slots := 0, locals := 50 } s m args below meth c z 0 0 0 0 (zQ D cy A T z none) y.1 7 90 [(0, .ref y.2.1), (1, .ref y.2.2.1), (2, .ref y.2.2.2.1), (3, .int y.2.2.2.2.1), (4, .int y.2.2.2.2.2.1), (6, .int y.2.2.2.2.2.2)] []) ?_ N (S, x0, x1, x2, x3, x4, x6) h
  intro K hK y hy
  obtain ⟨S, x0, x1, x2, x3, x4, x6⟩ := y
  exact wX0_chooseMoves_90 X hK40 (fun S x0 x1 x2 x3 x4 x6 hq => hK (S, x0, x1, x2, x3, x4, x6) hq) hy
set_option maxRecDepth 100000 in
set_option maxHeartbeats 4000000 in
theorem wX0_chooseMoves_40 {z : Nat} {N : Nat} {T : zS} (X : zX D cy p s m meth c cX0_chooseMoves 7 RX0 none) {K40 : zS × Nat × Nat × Nat × Int32 × Int32 → Option (zS)} (hK40 : ∀ (S : zS) (x0 : Nat) (x1 : Nat) (x2 : Nat) (x3 : Int32) (x4 : Int32), K40 (S, x0, x1, x2, x3, x4) = some T → zWt D cy A p l e { frames := 2, cells := 0, slots := 0, locals := 50 } s m args below meth c z 0 0 0 0 (zQ D cy A T z none) S 7 40 [(0, .ref x0), (1, .ref x1), (2, .ref x2), (3, .int x3), (4, .int x4)] []) {S : zS} {x0 : Nat} {x1 : Nat} {x2 : Nat} {x3 : Int32} {x4 : Int32} (h : rX0_chooseMoves_40 N K40 S x0 x1 x2 x3 x4 = some T) : zWt D cy A p l e { frames := 2, cells := 0, slots := 0, locals := 50 } s m args below meth c z 0 0 0 0 (zQ D cy A T z none) S 7 40 [(0, .ref x0), (1, .ref x1), (2, .ref x2), (3, .int x3), (4, .int x4)] [] := by
  obtain ⟨hx, hb, hml, hown, hr, hlocks, hT⟩ := id X
  intro H locs ls hH hS hl
  unfold rX0_chooseMoves_40 at h
  refine lv_iload hx hb dX0_chooseMoves_40 (lv_at hl 4 rfl) ?_
  refine lv_iload_n hx hb dX0_chooseMoves_42 rfl (lv_at hl 3 rfl) ?_
  refine lv_icmp_lt (tgt := 138) hx hb dX0_chooseMoves_43 (by decide) (fun c => ?_) (fun c => ?_)
  · have h := (if_pos c).symm.trans h
    exact z_vret X hH hS h dX0_chooseMoves_138
  · have h := (if_neg c).symm.trans h
    refine lv_aload_n hx hb dX0_chooseMoves_46 rfl (lv_at hl 0 rfl) ?_
    obtain ⟨v7, ev7, h⟩ := zb_some h
    refine z_getr X flX0_24 hH ev7 dX0_chooseMoves_47 ?_
    refine lv_astore (lv' := [(5, .ref v7), (0, .ref x0), (1, .ref x1), (2, .ref x2), (3, .int x3), (4, .int x4)]) hx hb dX0_chooseMoves_50 hl (by decide) rfl (fun ls hl => ?_)
    refine lv_aload_n hx hb dX0_chooseMoves_52 rfl (lv_at hl 1 rfl) ?_
    refine lv_aload_n hx hb dX0_chooseMoves_53 rfl (lv_at hl 1 rfl) ?_
    obtain ⟨v8, ev8, h⟩ := zb_some h
    refine z_getr X flX0_27 hH ev8 dX0_chooseMoves_54 ?_
    obtain ⟨S9, eS9, h⟩ := zb_some h
    refine z_putr X flX0_24 fpX0_4 (fun _ => ⟨rfl, rfl⟩) hH hS eS9 dX0_chooseMoves_57 (fun H locs hH hS => ?_)
    refine lv_aload_n hx hb dX0_chooseMoves_60 rfl (lv_at hl 1 rfl) ?_
    refine lv_aload hx hb dX0_chooseMoves_61 (lv_at hl 0 rfl) ?_
    obtain ⟨S10, eS10, h⟩ := zb_some h
    refine z_putr X flX0_27 fpX0_5 (fun _ => ⟨rfl, rfl⟩) hH hS eS10 dX0_chooseMoves_63 (fun H locs hH hS => ?_)
    refine lv_aload_n hx hb dX0_chooseMoves_66 rfl (lv_at hl 1 rfl) ?_
    obtain ⟨v11, ev11, h⟩ := zb_some h
    refine z_getr X flX0_24 hH ev11 dX0_chooseMoves_67 ?_
    refine lv_aload_n hx hb dX0_chooseMoves_70 rfl (lv_at hl 3 rfl) ?_
    obtain ⟨v12, ev12, h⟩ := zb_some h
    refine z_geti X flX0_41 hH ev12 dX0_chooseMoves_71 ?_
    refine lv_aload_n hx hb dX0_chooseMoves_74 rfl (lv_at hl 2 rfl) ?_
    obtain ⟨v13, ev13, h⟩ := zb_some h
    refine z_geti X flX0_41 hH ev13 dX0_chooseMoves_75 ?_
    refine lv_iload hx hb dX0_chooseMoves_78 (lv_at hl 5 rfl) ?_
    refine lv_isub hx hb dX0_chooseMoves_80 ?_
    obtain ⟨S14, eS14, h⟩ := zb_some h
    refine z_iast X hH hS eS14 dX0_chooseMoves_81 (fun H locs hH hS => ?_)
    refine lv_aload_n hx hb dX0_chooseMoves_82 rfl (lv_at hl 3 rfl) ?_
    obtain ⟨v15, ev15, h⟩ := zb_some h
    refine z_geti X flX0_41 hH ev15 dX0_chooseMoves_83 ?_
    refine lv_iconst (v := (1 : Int32)) hx hb dX0_chooseMoves_86 (by decide) ?_
    refine lv_isub hx hb dX0_chooseMoves_87 ?_
    refine lv_istore (lv' := [(6, .int (v15 - (1 : Int32))), (5, .ref v7), (0, .ref x0), (1, .ref x1), (2, .ref x2), (3, .int x3), (4, .int x4)]) hx hb dX0_chooseMoves_88 hl (by decide) rfl (fun ls hl => ?_)
    exact uX0_chooseMoves_90 X hK40 h _ _ _ hH hS (lv_sub hl [2, 3, 4, 5, 6, 0] rfl)
set_option maxRecDepth 100000 in
set_option maxHeartbeats 4000000 in
theorem uX0_chooseMoves_40 {z : Nat} {N : Nat} {T : zS} (X : zX D cy p s m meth c cX0_chooseMoves 7 RX0 none)  {S : zS} {x0 : Nat} {x1 : Nat} {x2 : Nat} {x3 : Int32} {x4 : Int32} (h : rlX0_chooseMoves_40 N S x0 x1 x2 x3 x4 = some T) : zWt D cy A p l e { frames := 2, cells := 0, slots := 0, locals := 50 } s m args below meth c z 0 0 0 0 (zQ D cy A T z none) S 7 40 [(0, .ref x0), (1, .ref x1), (2, .ref x2), (3, .int x3), (4, .int x4)] [] := by
  unfold rlX0_chooseMoves_40 at h
  refine zloop_ind (P := fun y => zWt D cy A p l e { frames := 2, cells := 0, slots := 0, locals := 50 } s m args below meth c z 0 0 0 0 (zQ D cy A T z none) y.1 7 40 [(0, .ref y.2.1), (1, .ref y.2.2.1), (2, .ref y.2.2.2.1), (3, .int y.2.2.2.2.1), (4, .int y.2.2.2.2.2)] []) ?_ N (S, x0, x1, x2, x3, x4) h
  intro K hK y hy
  obtain ⟨S, x0, x1, x2, x3, x4⟩ := y
  exact wX0_chooseMoves_40 X (fun S x0 x1 x2 x3 x4 hq => hK (S, x0, x1, x2, x3, x4) hq) hy
set_option maxRecDepth 100000 in
set_option maxHeartbeats 4000000 in
theorem wX0_chooseMoves_3 {z : Nat} {N : Nat} {T : zS} (X : zX D cy p s m meth c cX0_chooseMoves 7 RX0 none) {K3 : zS × Nat × Nat × Nat × Int32 × Int32 → Option (zS)} (hK3 : ∀ (S : zS) (x0 : Nat) (x1 : Nat) (x2 : Nat) (x3 : Int32) (x4 : Int32), K3 (S, x0, x1, x2, x3, x4) = some T → zWt D cy A p l e { frames := 2, cells := 0, slots := 0, locals := 50 } s m args below meth c z 0 0 0 0 (zQ D cy A T z none) S 7 3 [(0, .ref x0), (1, .ref x1), (2, .ref x2), (3, .int x3), (4, .int x4)] []) {S : zS} {x0 : Nat} {x1 : Nat} {x2 : Nat} {x3 : Int32} {x4 : Int32} (h : rX0_chooseMoves_3 N K3 S x0 x1 x2 x3 x4 = some T) : zWt D cy A p l e { frames := 2, cells := 0, slots := 0, locals := 50 } s m args below meth c z 0 0 0 0 (zQ D cy A T z none) S 7 3 [(0, .ref x0), (1, .ref x1), (2, .ref x2), (3, .int x3), (4, .int x4)] [] := by
  obtain ⟨hx, hb, hml, hown, hr, hlocks, hT⟩ := id X
  intro H locs ls hH hS hl
  unfold rX0_chooseMoves_3 at h
  refine lv_iload hx hb dX0_chooseMoves_3 (lv_at hl 4 rfl) ?_
  refine lv_aload_n hx hb dX0_chooseMoves_5 rfl (lv_at hl 2 rfl) ?_
  obtain ⟨v16, ev16, h⟩ := zb_some h
  refine z_geti X flX0_41 hH ev16 dX0_chooseMoves_6 ?_
  refine lv_icmp_gt (tgt := 32) hx hb dX0_chooseMoves_9 (by decide) (fun c => ?_) (fun c => ?_)
  · have h := (if_pos c).symm.trans h
    refine lv_aload_n hx hb dX0_chooseMoves_32 rfl (lv_at hl 1 rfl) ?_
    obtain ⟨v17, ev17, h⟩ := zb_some h
    refine z_geti X flX0_41 hH ev17 dX0_chooseMoves_33 ?_
    refine lv_iconst (v := (1 : Int32)) hx hb dX0_chooseMoves_36 (by decide) ?_
    refine lv_isub hx hb dX0_chooseMoves_37 ?_
    refine lv_istore (lv' := [(4, .int (v17 - (1 : Int32))), (0, .ref x0), (1, .ref x1), (2, .ref x2), (3, .int x3)]) hx hb dX0_chooseMoves_38 hl (by decide) rfl (fun ls hl => ?_)
    exact uX0_chooseMoves_40 X h _ _ _ hH hS (lv_sub hl [1, 2, 3, 4, 0] rfl)
  · have h := (if_neg c).symm.trans h
    refine lv_aload_n hx hb dX0_chooseMoves_12 rfl (lv_at hl 0 rfl) ?_
    obtain ⟨v18, ev18, h⟩ := zb_some h
    refine z_getr X flX0_24 hH ev18 dX0_chooseMoves_13 ?_
    refine lv_iload hx hb dX0_chooseMoves_16 (lv_at hl 4 rfl) ?_
    refine lv_aload_n hx hb dX0_chooseMoves_18 rfl (lv_at hl 2 rfl) ?_
    obtain ⟨v19, ev19, h⟩ := zb_some h
    refine z_geti X flX0_41 hH ev19 dX0_chooseMoves_19 ?_
    refine lv_iload hx hb dX0_chooseMoves_22 (lv_at hl 4 rfl) ?_
    refine lv_isub hx hb dX0_chooseMoves_24 ?_
    obtain ⟨S20, eS20, h⟩ := zb_some h
    refine z_iast X hH hS eS20 dX0_chooseMoves_25 (fun H locs hH hS => ?_)
    refine lv_iinc (v := (x4 + (1 : Int32))) (lv' := [(4, .int (x4 + (1 : Int32))), (0, .ref x0), (1, .ref x1), (2, .ref x2), (3, .int x3)]) hx hb dX0_chooseMoves_26 hl (k := 4) rfl (z_ii (by decide) _) (by decide) rfl (fun ls hl => ?_)
    refine lv_goto (tgt := 3) hx hb dX0_chooseMoves_29 (by decide) ?_
    exact hK3 _ _ _ _ _ _ h _ _ _ hH hS (lv_sub hl [1, 2, 3, 4, 0] rfl)
set_option maxRecDepth 100000 in
set_option maxHeartbeats 4000000 in
theorem uX0_chooseMoves_3 {z : Nat} {N : Nat} {T : zS} (X : zX D cy p s m meth c cX0_chooseMoves 7 RX0 none)  {S : zS} {x0 : Nat} {x1 : Nat} {x2 : Nat} {x3 : Int32} {x4 : Int32} (h : rlX0_chooseMoves_3 N S x0 x1 x2 x3 x4 = some T) : zWt D cy A p l e { frames := 2, cells := 0, slots := 0, locals := 50 } s m args below meth c z 0 0 0 0 (zQ D cy A T z none) S 7 3 [(0, .ref x0), (1, .ref x1), (2, .ref x2), (3, .int x3), (4, .int x4)] [] := by
  unfold rlX0_chooseMoves_3 at h
  refine zloop_ind (P := fun y => zWt D cy A p l e { frames := 2, cells := 0, slots := 0, locals := 50 } s m args below meth c z 0 0 0 0 (zQ D cy A T z none) y.1 7 3 [(0, .ref y.2.1), (1, .ref y.2.2.1), (2, .ref y.2.2.2.1), (3, .int y.2.2.2.2.1), (4, .int y.2.2.2.2.2)] []) ?_ N (S, x0, x1, x2, x3, x4) h
  intro K hK y hy
  obtain ⟨S, x0, x1, x2, x3, x4⟩ := y
  exact wX0_chooseMoves_3 X (fun S x0 x1 x2 x3 x4 hq => hK (S, x0, x1, x2, x3, x4) hq) hy
set_option maxRecDepth 100000 in
set_option maxHeartbeats 4000000 in
theorem wX0_chooseMoves_0 {z : Nat} {N : Nat} {T : zS} (X : zX D cy p s m meth c cX0_chooseMoves 7 RX0 none)  {S : zS} {x0 : Nat} {x1 : Nat} {x2 : Nat} {x3 : Int32} (h : rX0_chooseMoves_0 N S x0 x1 x2 x3 = some T) : zWt D cy A p l e { frames := 2, cells := 0, slots := 0, locals := 50 } s m args below meth c z 0 0 0 0 (zQ D cy A T z none) S 7 0 [(0, .ref x0), (1, .ref x1), (2, .ref x2), (3, .int x3)] [] := by
  obtain ⟨hx, hb, hml, hown, hr, hlocks, hT⟩ := id X
  intro H locs ls hH hS hl
  unfold rX0_chooseMoves_0 at h
  refine lv_iload_n hx hb dX0_chooseMoves_0 rfl (lv_at hl 3 rfl) ?_
  refine lv_istore (lv' := [(4, .int x3), (0, .ref x0), (1, .ref x1), (2, .ref x2), (3, .int x3)]) hx hb dX0_chooseMoves_1 hl (by decide) rfl (fun ls hl => ?_)
  exact uX0_chooseMoves_3 X h _ _ _ hH hS (lv_sub hl [1, 2, 3, 4, 0] rfl)
set_option maxRecDepth 100000 in
theorem kX0_chooseMoves {N : Nat} {T : zS} {S : zS} {z : Nat} {x0 : Nat} {x1 : Nat} {x2 : Nat} {x3 : Int32} (h : rX0_chooseMoves N S x0 x1 x2 x3 = some T) : Met l yX0_chooseMoves [.code yX0_chooseMoves cX0_chooseMoves 7 none] { frames := 2, cells := 0, slots := 0, locals := 50 } (zP D cy A S z [.ref x0, .ref x1, .ref x2, .int x3]) (zQ D cy A T z none) 0 0 A := by
  refine z_met (lv := [(0, .ref x0), (1, .ref x1), (2, .ref x2), (3, .int x3)]) (by decide) (Nat.le_of_ble_eq_true rfl) rfl ?_
  intro p e s m below meth c X H locs ls hH hS hl
  exact wX0_chooseMoves_0 X h _ _ _ hH hS (lv_sub hl [0, 1, 2, 3] rfl)
set_option maxRecDepth 100000 in
set_option maxHeartbeats 4000000 in
theorem wX0_moveAt_0 {z : Nat} {N : Nat} {r : Int32} {T : zS} (X : zX D cy p s m meth c cX0_moveAt 6 RX0 (some .int))  {S : zS} {x0 : Nat} {x1 : Nat} {x2 : Nat} {x3 : Int32} {x4 : Int32} (h : rX0_moveAt_0 N S x0 x1 x2 x3 x4 = some (r, T)) : zWt D cy A p l e { frames := 0, cells := 0, slots := 0, locals := 0 } s m args below meth c z 0 0 0 0 (zQ D cy A T z (some (.int r))) S 6 0 [(0, .ref x0), (1, .ref x1), (2, .ref x2), (3, .int x3), (4, .int x4)] [] := by
  obtain ⟨hx, hb, hml, hown, hr, hlocks, hT⟩ := id X
  intro H locs ls hH hS hl
  unfold rX0_moveAt_0 at h
  refine lv_iload_n hx hb dX0_moveAt_0 rfl (lv_at hl 3 rfl) ?_
  refine lv_aload_n hx hb dX0_moveAt_1 rfl (lv_at hl 1 rfl) ?_
  obtain ⟨v1, ev1, h⟩ := zb_some h
  refine z_geti X flX0_41 hH ev1 dX0_moveAt_2 ?_
  refine lv_icmp_lt (tgt := 10) hx hb dX0_moveAt_5 (by decide) (fun c => ?_) (fun c => ?_)
  · have h := (if_pos c).symm.trans h
    refine lv_iload hx hb dX0_moveAt_10 (lv_at hl 4 rfl) ?_
    refine lv_aload_n hx hb dX0_moveAt_12 rfl (lv_at hl 2 rfl) ?_
    obtain ⟨v2, ev2, h⟩ := zb_some h
    refine z_geti X flX0_41 hH ev2 dX0_moveAt_13 ?_
    refine lv_icmp_lt (tgt := 21) hx hb dX0_moveAt_16 (by decide) (fun c => ?_) (fun c => ?_)
    · have h := (if_pos c).symm.trans h
      refine lv_iload_n hx hb dX0_moveAt_21 rfl (lv_at hl 3 rfl) ?_
      refine lv_sipush (v := (200 : Int32)) hx hb dX0_moveAt_22 (by decide) ?_
      refine lv_imul hx hb dX0_moveAt_25 ?_
      refine lv_iload hx hb dX0_moveAt_26 (lv_at hl 4 rfl) ?_
      refine lv_iadd hx hb dX0_moveAt_28 ?_
      refine lv_istore (lv' := [(5, .int ((x3 * (200 : Int32)) + x4)), (0, .ref x0), (1, .ref x1), (2, .ref x2), (3, .int x3), (4, .int x4)]) hx hb dX0_moveAt_29 hl (by decide) rfl (fun ls hl => ?_)
      refine lv_aload_n hx hb dX0_moveAt_31 rfl (lv_at hl 1 rfl) ?_
      obtain ⟨v3, ev3, h⟩ := zb_some h
      refine z_getr X flX0_21 hH ev3 dX0_moveAt_32 ?_
      refine lv_iload hx hb dX0_moveAt_35 (lv_at hl 0 rfl) ?_
      refine lv_iconst (v := (4 : Int32)) hx hb dX0_moveAt_37 (by decide) ?_
      refine lv_ishr hx hb dX0_moveAt_38 ?_
      obtain ⟨v4, ev4, h⟩ := zb_some h
      refine z_iald X hH ev4 dX0_moveAt_39 ?_
      refine lv_iload hx hb dX0_moveAt_40 (lv_at hl 0 rfl) ?_
      refine lv_bipush (v := (15 : Int32)) hx hb dX0_moveAt_42 (by decide) ?_
      refine lv_iand hx hb dX0_moveAt_44 ?_
      refine lv_iconst (v := (2 : Int32)) hx hb dX0_moveAt_45 (by decide) ?_
      refine lv_imul hx hb dX0_moveAt_46 ?_
      refine lv_iushr hx hb dX0_moveAt_47 (zush_eq _ _) ?_
      refine lv_iconst (v := (3 : Int32)) hx hb dX0_moveAt_48 (by decide) ?_
      refine lv_iand hx hb dX0_moveAt_49 ?_
      exact z_iret X hH hS h dX0_moveAt_50
    · have h := (if_neg c).symm.trans h
      refine lv_iconst (v := (1 : Int32)) hx hb dX0_moveAt_19 (by decide) ?_
      exact z_iret X hH hS h dX0_moveAt_20
  · have h := (if_neg c).symm.trans h
    refine lv_iconst (v := (2 : Int32)) hx hb dX0_moveAt_8 (by decide) ?_
    exact z_iret X hH hS h dX0_moveAt_9
set_option maxRecDepth 100000 in
theorem kX0_moveAt {N : Nat} {r : Int32} {T : zS} {S : zS} {z : Nat} {x0 : Nat} {x1 : Nat} {x2 : Nat} {x3 : Int32} {x4 : Int32} (h : rX0_moveAt N S x0 x1 x2 x3 x4 = some (r, T)) : Met l yX0_moveAt [.code yX0_moveAt cX0_moveAt 6 (some .int)] { frames := 0, cells := 0, slots := 0, locals := 0 } (zP D cy A S z [.ref x0, .ref x1, .ref x2, .int x3, .int x4]) (zQ D cy A T z (some (.int r))) 0 0 A := by
  refine z_met (lv := [(0, .ref x0), (1, .ref x1), (2, .ref x2), (3, .int x3), (4, .int x4)]) (by decide) (Nat.le_of_ble_eq_true rfl) rfl ?_
  intro p e s m below meth c X H locs ls hH hS hl
  exact wX0_moveAt_0 X h _ _ _ hH hS (lv_sub hl [0, 1, 2, 3, 4] rfl)
set_option maxRecDepth 100000 in
set_option maxHeartbeats 4000000 in
theorem wX0_note_50 {z : Nat} {N : Nat} {T : zS} (X : zX D cy p s m meth c cX0_note 4 RX0 none)  {S : zS} (h : rX0_note_50 N S = some T) : zWt D cy A p l e { frames := 0, cells := 0, slots := 0, locals := 0 } s m args below meth c z 0 0 0 0 (zQ D cy A T z none) S 4 50 [] [] := by
  obtain ⟨hx, hb, hml, hown, hr, hlocks, hT⟩ := id X
  intro H locs ls hH hS hl
  unfold rX0_note_50 at h
  exact z_vret X hH hS h dX0_note_50
set_option maxRecDepth 100000 in
set_option maxHeartbeats 4000000 in
theorem wX0_note_0 {z : Nat} {N : Nat} {T : zS} (X : zX D cy p s m meth c cX0_note 4 RX0 none)  {S : zS} {x0 : Nat} {x1 : Int32} {x2 : Int32} {x3 : Int32} (h : rX0_note_0 N S x0 x1 x2 x3 = some T) : zWt D cy A p l e { frames := 0, cells := 0, slots := 0, locals := 0 } s m args below meth c z 0 0 0 0 (zQ D cy A T z none) S 4 0 [(0, .ref x0), (1, .int x1), (2, .int x2), (3, .int x3)] [] := by
  obtain ⟨hx, hb, hml, hown, hr, hlocks, hT⟩ := id X
  intro H locs ls hH hS hl
  unfold rX0_note_0 at h
  refine lv_aload_n hx hb dX0_note_0 rfl (lv_at hl 0 rfl) ?_
  obtain ⟨v1, ev1, h⟩ := zb_some h
  refine z_geti X flX0_60 hH ev1 dX0_note_1 ?_
  refine lv_sipush (v := (200 : Int32)) hx hb dX0_note_4 (by decide) ?_
  refine lv_icmp_ge (tgt := 50) hx hb dX0_note_7 (by decide) (fun c => ?_) (fun c => ?_)
  · have h := (if_pos c).symm.trans h
    exact wX0_note_50 X h _ _ _ hH hS (lv_sub hl [] rfl)
  · have h := (if_neg c).symm.trans h
    refine lv_aload_n hx hb dX0_note_10 rfl (lv_at hl 0 rfl) ?_
    obtain ⟨v2, ev2, h⟩ := zb_some h
    refine z_getr X flX0_9 hH ev2 dX0_note_11 ?_
    refine lv_aload_n hx hb dX0_note_14 rfl (lv_at hl 0 rfl) ?_
    obtain ⟨v3, ev3, h⟩ := zb_some h
    refine z_geti X flX0_60 hH ev3 dX0_note_15 ?_
    refine lv_iload_n hx hb dX0_note_18 rfl (lv_at hl 1 rfl) ?_
    obtain ⟨S4, eS4, h⟩ := zb_some h
    refine z_iast X hH hS eS4 dX0_note_19 (fun H locs hH hS => ?_)
    refine lv_aload_n hx hb dX0_note_20 rfl (lv_at hl 0 rfl) ?_
    obtain ⟨v5, ev5, h⟩ := zb_some h
    refine z_getr X flX0_15 hH ev5 dX0_note_21 ?_
    refine lv_aload_n hx hb dX0_note_24 rfl (lv_at hl 0 rfl) ?_
    obtain ⟨v6, ev6, h⟩ := zb_some h
    refine z_geti X flX0_60 hH ev6 dX0_note_25 ?_
    refine lv_iload_n hx hb dX0_note_28 rfl (lv_at hl 2 rfl) ?_
    obtain ⟨S7, eS7, h⟩ := zb_some h
    refine z_iast X hH hS eS7 dX0_note_29 (fun H locs hH hS => ?_)
    refine lv_aload_n hx hb dX0_note_30 rfl (lv_at hl 0 rfl) ?_
    obtain ⟨v8, ev8, h⟩ := zb_some h
    refine z_getr X flX0_18 hH ev8 dX0_note_31 ?_
    refine lv_aload_n hx hb dX0_note_34 rfl (lv_at hl 0 rfl) ?_
    obtain ⟨v9, ev9, h⟩ := zb_some h
    refine z_geti X flX0_60 hH ev9 dX0_note_35 ?_
    refine lv_iload_n hx hb dX0_note_38 rfl (lv_at hl 3 rfl) ?_
    obtain ⟨S10, eS10, h⟩ := zb_some h
    refine z_iast X hH hS eS10 dX0_note_39 (fun H locs hH hS => ?_)
    refine lv_aload_n hx hb dX0_note_40 rfl (lv_at hl 0 rfl) ?_
    refine lv_dup hx hb dX0_note_41 rfl ?_
    obtain ⟨v11, ev11, h⟩ := zb_some h
    refine z_geti X flX0_60 hH ev11 dX0_note_42 ?_
    refine lv_iconst (v := (1 : Int32)) hx hb dX0_note_45 (by decide) ?_
    refine lv_iadd hx hb dX0_note_46 ?_
    obtain ⟨S12, eS12, h⟩ := zb_some h
    refine z_puti X flX0_60 fpX0_6 hH hS eS12 dX0_note_47 (fun H locs hH hS => ?_)
    exact wX0_note_50 X h _ _ _ hH hS (lv_sub hl [] rfl)
set_option maxRecDepth 100000 in
theorem kX0_note {N : Nat} {T : zS} {S : zS} {z : Nat} {x0 : Nat} {x1 : Int32} {x2 : Int32} {x3 : Int32} (h : rX0_note N S x0 x1 x2 x3 = some T) : Met l yX0_note [.code yX0_note cX0_note 4 none] { frames := 0, cells := 0, slots := 0, locals := 0 } (zP D cy A S z [.ref x0, .int x1, .int x2, .int x3]) (zQ D cy A T z none) 0 0 A := by
  refine z_met (lv := [(0, .ref x0), (1, .int x1), (2, .int x2), (3, .int x3)]) (by decide) (Nat.le_of_ble_eq_true rfl) rfl ?_
  intro p e s m below meth c X H locs ls hH hS hl
  exact wX0_note_0 X h _ _ _ hH hS (lv_sub hl [0, 1, 2, 3] rfl)
set_option maxRecDepth 100000 in
set_option maxHeartbeats 4000000 in
theorem wX0_follow_121 {z : Nat} {N : Nat} {T : zS} (X : zX D cy p s m meth c cX0_follow 8 RX0 none)  {S : zS} (h : rX0_follow_121 N S = some T) : zWt D cy A p l e { frames := 1, cells := 0, slots := 0, locals := 25 } s m args below meth c z 0 0 0 0 (zQ D cy A T z none) S 8 121 [] [] := by
  obtain ⟨hx, hb, hml, hown, hr, hlocks, hT⟩ := id X
  intro H locs ls hH hS hl
  unfold rX0_follow_121 at h
  exact z_vret X hH hS h dX0_follow_121
set_option maxRecDepth 100000 in
set_option maxHeartbeats 4000000 in
theorem wX0_follow_112 {z : Nat} {N : Nat} {T : zS} (X : zX D cy p s m meth c cX0_follow 8 RX0 none) {K14 : zS × Nat × Nat × Nat × Int32 × Int32 × Int32 → Option (zS)} (hK14 : ∀ (S : zS) (x0 : Nat) (x1 : Nat) (x2 : Nat) (x4 : Int32) (x5 : Int32) (x6 : Int32), K14 (S, x0, x1, x2, x4, x5, x6) = some T → zWt D cy A p l e { frames := 1, cells := 0, slots := 0, locals := 25 } s m args below meth c z 0 0 0 0 (zQ D cy A T z none) S 8 14 [(0, .ref x0), (1, .ref x1), (2, .ref x2), (4, .int x4), (5, .int x5), (6, .int x6)] []) {S : zS} {x0 : Nat} {x1 : Nat} {x2 : Nat} {x4 : Int32} {x6 : Int32} {y0 : Int32} {y1 : Int32} (h : rX0_follow_112 N K14 S x0 x1 x2 x4 x6 y0 y1 = some T) : zWt D cy A p l e { frames := 1, cells := 0, slots := 0, locals := 25 } s m args below meth c z 0 0 0 0 (zQ D cy A T z none) S 8 112 [(0, .ref x0), (1, .ref x1), (2, .ref x2), (4, .int x4), (6, .int x6)] [.int y1, .int y0] := by
  obtain ⟨hx, hb, hml, hown, hr, hlocks, hT⟩ := id X
  intro H locs ls hH hS hl
  unfold rX0_follow_112 at h
  refine lv_iadd hx hb dX0_follow_112 ?_
  refine lv_istore (lv' := [(5, .int (y0 + y1)), (0, .ref x0), (1, .ref x1), (2, .ref x2), (4, .int x4), (6, .int x6)]) hx hb dX0_follow_113 hl (by decide) rfl (fun ls hl => ?_)
  refine lv_iinc (v := (x6 + (1 : Int32))) (lv' := [(6, .int (x6 + (1 : Int32))), (5, .int (y0 + y1)), (0, .ref x0), (1, .ref x1), (2, .ref x2), (4, .int x4)]) hx hb dX0_follow_115 hl (k := 5) rfl (z_ii (by decide) _) (by decide) rfl (fun ls hl => ?_)
  refine lv_goto (tgt := 14) hx hb dX0_follow_118 (by decide) ?_
  exact hK14 _ _ _ _ _ _ _ h _ _ _ hH hS (lv_sub hl [2, 3, 4, 5, 1, 0] rfl)
set_option maxRecDepth 100000 in
set_option maxHeartbeats 4000000 in
theorem wX0_follow_96 {z : Nat} {N : Nat} {T : zS} (X : zX D cy p s m meth c cX0_follow 8 RX0 none) {K14 : zS × Nat × Nat × Nat × Int32 × Int32 × Int32 → Option (zS)} (hK14 : ∀ (S : zS) (x0 : Nat) (x1 : Nat) (x2 : Nat) (x4 : Int32) (x5 : Int32) (x6 : Int32), K14 (S, x0, x1, x2, x4, x5, x6) = some T → zWt D cy A p l e { frames := 1, cells := 0, slots := 0, locals := 25 } s m args below meth c z 0 0 0 0 (zQ D cy A T z none) S 8 14 [(0, .ref x0), (1, .ref x1), (2, .ref x2), (4, .int x4), (5, .int x5), (6, .int x6)] []) {S : zS} {x0 : Nat} {x1 : Nat} {x2 : Nat} {x5 : Int32} {x6 : Int32} {x7 : Int32} {y0 : Int32} {y1 : Int32} (h : rX0_follow_96 N K14 S x0 x1 x2 x5 x6 x7 y0 y1 = some T) : zWt D cy A p l e { frames := 1, cells := 0, slots := 0, locals := 25 } s m args below meth c z 0 0 0 0 (zQ D cy A T z none) S 8 96 [(0, .ref x0), (1, .ref x1), (2, .ref x2), (5, .int x5), (6, .int x6), (7, .int x7)] [.int y1, .int y0] := by
  obtain ⟨hx, hb, hml, hown, hr, hlocks, hT⟩ := id X
  intro H locs ls hH hS hl
  unfold rX0_follow_96 at h
  refine lv_iadd hx hb dX0_follow_96 ?_
  refine lv_istore (lv' := [(4, .int (y0 + y1)), (0, .ref x0), (1, .ref x1), (2, .ref x2), (5, .int x5), (6, .int x6), (7, .int x7)]) hx hb dX0_follow_97 hl (by decide) rfl (fun ls hl => ?_)
  refine lv_iload hx hb dX0_follow_99 (lv_at hl 4 rfl) ?_
  refine lv_iload hx hb dX0_follow_101 (lv_at hl 6 rfl) ?_
  refine lv_iconst (v := (1 : Int32)) hx hb dX0_follow_103 (by decide) ?_
  refine lv_icmp_ne (tgt := 111) hx hb dX0_follow_104 (by decide) (fun c => ?_) (fun c => ?_)
  · have h := (if_neg c).symm.trans h
    refine lv_iconst (v := (1 : Int32)) hx hb dX0_follow_111 (by decide) ?_
    exact wX0_follow_112 X hK14 h _ _ _ hH hS (lv_sub hl [1, 2, 3, 0, 5] rfl)
  · have h := (if_pos c).symm.trans h
    refine lv_iconst (v := (0 : Int32)) hx hb dX0_follow_107 (by decide) ?_
    refine lv_goto (tgt := 112) hx hb dX0_follow_108 (by decide) ?_
    exact wX0_follow_112 X hK14 h _ _ _ hH hS (lv_sub hl [1, 2, 3, 0, 5] rfl)
set_option maxRecDepth 100000 in
set_option maxHeartbeats 4000000 in
theorem wX0_follow_83 {z : Nat} {N : Nat} {T : zS} (X : zX D cy p s m meth c cX0_follow 8 RX0 none) {K14 : zS × Nat × Nat × Nat × Int32 × Int32 × Int32 → Option (zS)} (hK14 : ∀ (S : zS) (x0 : Nat) (x1 : Nat) (x2 : Nat) (x4 : Int32) (x5 : Int32) (x6 : Int32), K14 (S, x0, x1, x2, x4, x5, x6) = some T → zWt D cy A p l e { frames := 1, cells := 0, slots := 0, locals := 25 } s m args below meth c z 0 0 0 0 (zQ D cy A T z none) S 8 14 [(0, .ref x0), (1, .ref x1), (2, .ref x2), (4, .int x4), (5, .int x5), (6, .int x6)] []) {S : zS} {x0 : Nat} {x1 : Nat} {x2 : Nat} {x4 : Int32} {x5 : Int32} {x6 : Int32} {x7 : Int32} (h : rX0_follow_83 N K14 S x0 x1 x2 x4 x5 x6 x7 = some T) : zWt D cy A p l e { frames := 1, cells := 0, slots := 0, locals := 25 } s m args below meth c z 0 0 0 0 (zQ D cy A T z none) S 8 83 [(0, .ref x0), (1, .ref x1), (2, .ref x2), (4, .int x4), (5, .int x5), (6, .int x6), (7, .int x7)] [] := by
  obtain ⟨hx, hb, hml, hown, hr, hlocks, hT⟩ := id X
  intro H locs ls hH hS hl
  unfold rX0_follow_83 at h
  refine lv_iload hx hb dX0_follow_83 (lv_at hl 3 rfl) ?_
  refine lv_iload hx hb dX0_follow_85 (lv_at hl 6 rfl) ?_
  refine lv_iconst (v := (2 : Int32)) hx hb dX0_follow_87 (by decide) ?_
  refine lv_icmp_ne (tgt := 95) hx hb dX0_follow_88 (by decide) (fun c => ?_) (fun c => ?_)
  · have h := (if_neg c).symm.trans h
    refine lv_iconst (v := (1 : Int32)) hx hb dX0_follow_95 (by decide) ?_
    exact wX0_follow_96 X hK14 h _ _ _ hH hS (lv_sub hl [0, 1, 2, 4, 5, 6] rfl)
  · have h := (if_pos c).symm.trans h
    refine lv_iconst (v := (0 : Int32)) hx hb dX0_follow_91 (by decide) ?_
    refine lv_goto (tgt := 96) hx hb dX0_follow_92 (by decide) ?_
    exact wX0_follow_96 X hK14 h _ _ _ hH hS (lv_sub hl [0, 1, 2, 4, 5, 6] rfl)
set_option maxRecDepth 100000 in
set_option maxHeartbeats 4000000 in
theorem wX0_follow_80 {z : Nat} {N : Nat} {T : zS} (X : zX D cy p s m meth c cX0_follow 8 RX0 none) {K14 : zS × Nat × Nat × Nat × Int32 × Int32 × Int32 → Option (zS)} (hK14 : ∀ (S : zS) (x0 : Nat) (x1 : Nat) (x2 : Nat) (x4 : Int32) (x5 : Int32) (x6 : Int32), K14 (S, x0, x1, x2, x4, x5, x6) = some T → zWt D cy A p l e { frames := 1, cells := 0, slots := 0, locals := 25 } s m args below meth c z 0 0 0 0 (zQ D cy A T z none) S 8 14 [(0, .ref x0), (1, .ref x1), (2, .ref x2), (4, .int x4), (5, .int x5), (6, .int x6)] []) {S : zS} {x0 : Nat} {x1 : Nat} {x2 : Nat} {x4 : Int32} {x5 : Int32} {x6 : Int32} {x7 : Int32} {y0 : Nat} {y1 : Int32} {y2 : Int32} {y3 : Int32} (h : rX0_follow_80 N K14 S x0 x1 x2 x4 x5 x6 x7 y0 y1 y2 y3 = some T) : zWt D cy A p l e { frames := 1, cells := 0, slots := 0, locals := 25 } s m args below meth c z 0 0 0 0 (zQ D cy A T z none) S 8 80 [(0, .ref x0), (1, .ref x1), (2, .ref x2), (4, .int x4), (5, .int x5), (6, .int x6), (7, .int x7)] [.int y3, .int y2, .int y1, .ref y0] := by
  obtain ⟨hx, hb, hml, hown, hr, hlocks, hT⟩ := id X
  intro H locs ls hH hS hl
  unfold rX0_follow_80 at h
  obtain ⟨u1, eu1, h⟩ := zb_some h
  obtain ⟨S2, eS2, h⟩ := zb_some h
  refine z_cV (As := [.int y1, .int y2, .int y3]) X hl hH hS mlX0_65 eu1 (kX0_note eS2) rfl rfl (Nat.le_of_ble_eq_true rfl) ⟨rfl, rfl, Nat.le_of_ble_eq_true rfl, Nat.le_of_ble_eq_true rfl⟩ ⟨Nat.le_refl _, Nat.le_refl _⟩ dX0_follow_80 (fun H locs hH hS => ?_)
  exact wX0_follow_83 X hK14 h _ _ _ hH hS (lv_sub hl [0, 1, 2, 3, 4, 5, 6] rfl)
set_option maxRecDepth 100000 in
set_option maxHeartbeats 4000000 in
theorem wX0_follow_40 {z : Nat} {N : Nat} {T : zS} (X : zX D cy p s m meth c cX0_follow 8 RX0 none) {K14 : zS × Nat × Nat × Nat × Int32 × Int32 × Int32 → Option (zS)} (hK14 : ∀ (S : zS) (x0 : Nat) (x1 : Nat) (x2 : Nat) (x4 : Int32) (x5 : Int32) (x6 : Int32), K14 (S, x0, x1, x2, x4, x5, x6) = some T → zWt D cy A p l e { frames := 1, cells := 0, slots := 0, locals := 25 } s m args below meth c z 0 0 0 0 (zQ D cy A T z none) S 8 14 [(0, .ref x0), (1, .ref x1), (2, .ref x2), (4, .int x4), (5, .int x5), (6, .int x6)] []) {S : zS} {x0 : Nat} {x1 : Nat} {x2 : Nat} {x4 : Int32} {x5 : Int32} {x6 : Int32} (h : rX0_follow_40 N K14 S x0 x1 x2 x4 x5 x6 = some T) : zWt D cy A p l e { frames := 1, cells := 0, slots := 0, locals := 25 } s m args below meth c z 0 0 0 0 (zQ D cy A T z none) S 8 40 [(0, .ref x0), (1, .ref x1), (2, .ref x2), (4, .int x4), (5, .int x5), (6, .int x6)] [] := by
  obtain ⟨hx, hb, hml, hown, hr, hlocks, hT⟩ := id X
  intro H locs ls hH hS hl
  unfold rX0_follow_40 at h
  refine lv_aload_n hx hb dX0_follow_40 rfl (lv_at hl 0 rfl) ?_
  refine lv_aload_n hx hb dX0_follow_41 rfl (lv_at hl 1 rfl) ?_
  refine lv_aload_n hx hb dX0_follow_42 rfl (lv_at hl 2 rfl) ?_
  refine lv_iload hx hb dX0_follow_43 (lv_at hl 3 rfl) ?_
  refine lv_iload hx hb dX0_follow_45 (lv_at hl 4 rfl) ?_
  obtain ⟨u3, eu3, h⟩ := zb_some h
  obtain ⟨v5, S4, eS4, h⟩ := zb2_some h
  refine z_cV (As := [.ref x1, .ref x2, .int x4, .int x5]) X hl hH hS mlX0_61 eu3 (kX0_moveAt eS4) rfl rfl (Nat.le_of_ble_eq_true rfl) ⟨rfl, rfl, Nat.le_of_ble_eq_true rfl, Nat.le_of_ble_eq_true rfl⟩ ⟨Nat.le_refl _, Nat.le_refl _⟩ dX0_follow_47 (fun H locs hH hS => ?_)
  refine lv_istore (lv' := [(7, .int v5), (0, .ref x0), (1, .ref x1), (2, .ref x2), (4, .int x4), (5, .int x5), (6, .int x6)]) hx hb dX0_follow_50 hl (by decide) rfl (fun ls hl => ?_)
  refine lv_iload hx hb dX0_follow_52 (lv_at hl 0 rfl) ?_
  refine lv_iconst (v := (3 : Int32)) hx hb dX0_follow_54 (by decide) ?_
  refine lv_icmp_eq (tgt := 83) hx hb dX0_follow_55 (by decide) (fun c => ?_) (fun c => ?_)
  · have h := (if_pos c).symm.trans h
    exact wX0_follow_83 X hK14 h _ _ _ hH hS (lv_sub hl [1, 2, 3, 4, 5, 6, 0] rfl)
  · have h := (if_neg c).symm.trans h
    refine lv_aload_n hx hb dX0_follow_58 rfl (lv_at hl 1 rfl) ?_
    refine lv_iload hx hb dX0_follow_59 (lv_at hl 0 rfl) ?_
    refine lv_iload hx hb dX0_follow_61 (lv_at hl 4 rfl) ?_
    refine lv_iload hx hb dX0_follow_63 (lv_at hl 0 rfl) ?_
    refine lv_iconst (v := (1 : Int32)) hx hb dX0_follow_65 (by decide) ?_
    refine lv_icmp_ne (tgt := 73) hx hb dX0_follow_66 (by decide) (fun c => ?_) (fun c => ?_)
    · have h := (if_neg c).symm.trans h
      refine lv_aload_n hx hb dX0_follow_73 rfl (lv_at hl 3 rfl) ?_
      obtain ⟨v6, ev6, h⟩ := zb_some h
      refine z_getr X flX0_53 hH ev6 dX0_follow_74 ?_
      refine lv_iload hx hb dX0_follow_77 (lv_at hl 5 rfl) ?_
      obtain ⟨v7, ev7, h⟩ := zb_some h
      refine z_iald X hH ev7 dX0_follow_79 ?_
      exact wX0_follow_80 X hK14 h _ _ _ hH hS (lv_sub hl [1, 2, 3, 4, 5, 6, 0] rfl)
    · have h := (if_pos c).symm.trans h
      refine lv_iconst (v := (0 : Int32)) hx hb dX0_follow_69 (by decide) ?_
      refine lv_goto (tgt := 80) hx hb dX0_follow_70 (by decide) ?_
      exact wX0_follow_80 X hK14 h _ _ _ hH hS (lv_sub hl [1, 2, 3, 4, 5, 6, 0] rfl)
set_option maxRecDepth 100000 in
set_option maxHeartbeats 4000000 in
theorem wX0_follow_14 {z : Nat} {N : Nat} {T : zS} (X : zX D cy p s m meth c cX0_follow 8 RX0 none) {K14 : zS × Nat × Nat × Nat × Int32 × Int32 × Int32 → Option (zS)} (hK14 : ∀ (S : zS) (x0 : Nat) (x1 : Nat) (x2 : Nat) (x4 : Int32) (x5 : Int32) (x6 : Int32), K14 (S, x0, x1, x2, x4, x5, x6) = some T → zWt D cy A p l e { frames := 1, cells := 0, slots := 0, locals := 25 } s m args below meth c z 0 0 0 0 (zQ D cy A T z none) S 8 14 [(0, .ref x0), (1, .ref x1), (2, .ref x2), (4, .int x4), (5, .int x5), (6, .int x6)] []) {S : zS} {x0 : Nat} {x1 : Nat} {x2 : Nat} {x4 : Int32} {x5 : Int32} {x6 : Int32} (h : rX0_follow_14 N K14 S x0 x1 x2 x4 x5 x6 = some T) : zWt D cy A p l e { frames := 1, cells := 0, slots := 0, locals := 25 } s m args below meth c z 0 0 0 0 (zQ D cy A T z none) S 8 14 [(0, .ref x0), (1, .ref x1), (2, .ref x2), (4, .int x4), (5, .int x5), (6, .int x6)] [] := by
  obtain ⟨hx, hb, hml, hown, hr, hlocks, hT⟩ := id X
  intro H locs ls hH hS hl
  unfold rX0_follow_14 at h
  refine lv_iload hx hb dX0_follow_14 (lv_at hl 5 rfl) ?_
  refine lv_sipush (v := (400 : Int32)) hx hb dX0_follow_16 (by decide) ?_
  refine lv_icmp_ge (tgt := 121) hx hb dX0_follow_19 (by decide) (fun c => ?_) (fun c => ?_)
  · have h := (if_pos c).symm.trans h
    exact wX0_follow_121 X h _ _ _ hH hS (lv_sub hl [] rfl)
  · have h := (if_neg c).symm.trans h
    refine lv_iload hx hb dX0_follow_22 (lv_at hl 3 rfl) ?_
    refine lv_aload_n hx hb dX0_follow_24 rfl (lv_at hl 1 rfl) ?_
    obtain ⟨v8, ev8, h⟩ := zb_some h
    refine z_geti X flX0_41 hH ev8 dX0_follow_25 ?_
    refine lv_icmp_lt (tgt := 40) hx hb dX0_follow_28 (by decide) (fun c => ?_) (fun c => ?_)
    · have h := (if_pos c).symm.trans h
      exact wX0_follow_40 X hK14 h _ _ _ hH hS (lv_sub hl [0, 1, 2, 3, 4, 5] rfl)
    · have h := (if_neg c).symm.trans h
      refine lv_iload hx hb dX0_follow_31 (lv_at hl 4 rfl) ?_
      refine lv_aload_n hx hb dX0_follow_33 rfl (lv_at hl 2 rfl) ?_
      obtain ⟨v9, ev9, h⟩ := zb_some h
      refine z_geti X flX0_41 hH ev9 dX0_follow_34 ?_
      refine lv_icmp_ge (tgt := 121) hx hb dX0_follow_37 (by decide) (fun c => ?_) (fun c => ?_)
      · have h := (if_pos c).symm.trans h
        exact wX0_follow_121 X h _ _ _ hH hS (lv_sub hl [] rfl)
      · have h := (if_neg c).symm.trans h
        exact wX0_follow_40 X hK14 h _ _ _ hH hS (lv_sub hl [0, 1, 2, 3, 4, 5] rfl)
set_option maxRecDepth 100000 in
set_option maxHeartbeats 4000000 in
theorem uX0_follow_14 {z : Nat} {N : Nat} {T : zS} (X : zX D cy p s m meth c cX0_follow 8 RX0 none)  {S : zS} {x0 : Nat} {x1 : Nat} {x2 : Nat} {x4 : Int32} {x5 : Int32} {x6 : Int32} (h : rlX0_follow_14 N S x0 x1 x2 x4 x5 x6 = some T) : zWt D cy A p l e { frames := 1, cells := 0, slots := 0, locals := 25 } s m args below meth c z 0 0 0 0 (zQ D cy A T z none) S 8 14 [(0, .ref x0), (1, .ref x1), (2, .ref x2), (4, .int x4), (5, .int x5), (6, .int x6)] [] := by
  unfold rlX0_follow_14 at h
  refine zloop_ind (P := fun y => zWt D cy A p l e { frames := 1, cells := 0, slots := 0, locals := 25 } s m args below meth c z 0 0 0 0 (zQ D cy A T z none) y.1 8 14 [(0, .ref y.2.1), (1, .ref y.2.2.1), (2, .ref y.2.2.2.1), (4, .int y.2.2.2.2.1), (5, .int y.2.2.2.2.2.1), (6, .int y.2.2.2.2.2.2)] []) ?_ N (S, x0, x1, x2, x4, x5, x6) h
  intro K hK y hy
  obtain ⟨S, x0, x1, x2, x4, x5, x6⟩ := y
  exact wX0_follow_14 X (fun S x0 x1 x2 x4 x5 x6 hq => hK (S, x0, x1, x2, x4, x5, x6) hq) hy
set_option maxRecDepth 100000 in
set_option maxHeartbeats 4000000 in
theorem wX0_follow_0 {z : Nat} {N : Nat} {T : zS} (X : zX D cy p s m meth c cX0_follow 8 RX0 none)  {S : zS} {x0 : Nat} {x1 : Nat} {x2 : Nat} {x3 : Int32} (h : rX0_follow_0 N S x0 x1 x2 x3 = some T) : zWt D cy A p l e { frames := 1, cells := 0, slots := 0, locals := 25 } s m args below meth c z 0 0 0 0 (zQ D cy A T z none) S 8 0 [(0, .ref x0), (1, .ref x1), (2, .ref x2), (3, .int x3)] [] := by
  obtain ⟨hx, hb, hml, hown, hr, hlocks, hT⟩ := id X
  intro H locs ls hH hS hl
  unfold rX0_follow_0 at h
  refine lv_iload_n hx hb dX0_follow_0 rfl (lv_at hl 3 rfl) ?_
  refine lv_istore (lv' := [(4, .int x3), (0, .ref x0), (1, .ref x1), (2, .ref x2), (3, .int x3)]) hx hb dX0_follow_1 hl (by decide) rfl (fun ls hl => ?_)
  refine lv_iload_n hx hb dX0_follow_3 rfl (lv_at hl 4 rfl) ?_
  refine lv_istore (lv' := [(5, .int x3), (4, .int x3), (0, .ref x0), (1, .ref x1), (2, .ref x2), (3, .int x3)]) hx hb dX0_follow_4 hl (by decide) rfl (fun ls hl => ?_)
  refine lv_aload_n hx hb dX0_follow_6 rfl (lv_at hl 2 rfl) ?_
  refine lv_iconst (v := (0 : Int32)) hx hb dX0_follow_7 (by decide) ?_
  obtain ⟨S10, eS10, h⟩ := zb_some h
  refine z_puti X flX0_60 fpX0_6 hH hS eS10 dX0_follow_8 (fun H locs hH hS => ?_)
  refine lv_iconst (v := (0 : Int32)) hx hb dX0_follow_11 (by decide) ?_
  refine lv_istore (lv' := [(6, .int (0 : Int32)), (5, .int x3), (4, .int x3), (0, .ref x0), (1, .ref x1), (2, .ref x2), (3, .int x3)]) hx hb dX0_follow_12 hl (by decide) rfl (fun ls hl => ?_)
  exact uX0_follow_14 X h _ _ _ hH hS (lv_sub hl [3, 4, 5, 2, 1, 0] rfl)
set_option maxRecDepth 100000 in
theorem kX0_follow {N : Nat} {T : zS} {S : zS} {z : Nat} {x0 : Nat} {x1 : Nat} {x2 : Nat} {x3 : Int32} (h : rX0_follow N S x0 x1 x2 x3 = some T) : Met l yX0_follow [.code yX0_follow cX0_follow 8 none] { frames := 1, cells := 0, slots := 0, locals := 25 } (zP D cy A S z [.ref x0, .ref x1, .ref x2, .int x3]) (zQ D cy A T z none) 0 0 A := by
  refine z_met (lv := [(0, .ref x0), (1, .ref x1), (2, .ref x2), (3, .int x3)]) (by decide) (Nat.le_of_ble_eq_true rfl) rfl ?_
  intro p e s m below meth c X H locs ls hH hS hl
  exact wX0_follow_0 X h _ _ _ hH hS (lv_sub hl [0, 1, 2, 3] rfl)
set_option maxRecDepth 100000 in
set_option maxHeartbeats 4000000 in
theorem wX0_likeAhead_14 {z : Nat} {N : Nat} {r : Int32} {T : zS} (X : zX D cy p s m meth c cX0_likeAhead 4 RX0 (some .int)) {K14 : zS × Nat × Nat × Int32 × Int32 → Option (Int32 × zS)} (hK14 : ∀ (S : zS) (x0 : Nat) (x1 : Nat) (x2 : Int32) (x3 : Int32), K14 (S, x0, x1, x2, x3) = some (r, T) → zWt D cy A p l e { frames := 1, cells := 0, slots := 0, locals := 21 } s m args below meth c z 0 0 0 0 (zQ D cy A T z (some (.int r))) S 4 14 [(0, .ref x0), (1, .ref x1), (2, .int x2), (3, .int x3)] []) {S : zS} {x0 : Nat} {x1 : Nat} {x2 : Int32} {x3 : Int32} (h : rX0_likeAhead_14 N K14 S x0 x1 x2 x3 = some (r, T)) : zWt D cy A p l e { frames := 1, cells := 0, slots := 0, locals := 21 } s m args below meth c z 0 0 0 0 (zQ D cy A T z (some (.int r))) S 4 14 [(0, .ref x0), (1, .ref x1), (2, .int x2), (3, .int x3)] [] := by
  obtain ⟨hx, hb, hml, hown, hr, hlocks, hT⟩ := id X
  intro H locs ls hH hS hl
  unfold rX0_likeAhead_14 at h
  refine lv_iload_n hx hb dX0_likeAhead_14 rfl (lv_at hl 3 rfl) ?_
  refine lv_iload_n hx hb dX0_likeAhead_15 rfl (lv_at hl 2 rfl) ?_
  refine lv_icmp_ge (tgt := 42) hx hb dX0_likeAhead_16 (by decide) (fun c => ?_) (fun c => ?_)
  · have h := (if_pos c).symm.trans h
    refine lv_iload_n hx hb dX0_likeAhead_42 rfl (lv_at hl 2 rfl) ?_
    exact z_iret X hH hS h dX0_likeAhead_43
  · have h := (if_neg c).symm.trans h
    refine lv_aload_n hx hb dX0_likeAhead_19 rfl (lv_at hl 0 rfl) ?_
    obtain ⟨v1, ev1, h⟩ := zb_some h
    refine z_getr X flX0_53 hH ev1 dX0_likeAhead_20 ?_
    refine lv_iload_n hx hb dX0_likeAhead_23 rfl (lv_at hl 3 rfl) ?_
    obtain ⟨v2, ev2, h⟩ := zb_some h
    refine z_iald X hH ev2 dX0_likeAhead_24 ?_
    refine lv_aload_n hx hb dX0_likeAhead_25 rfl (lv_at hl 1 rfl) ?_
    obtain ⟨v3, ev3, h⟩ := zb_some h
    refine z_getr X flX0_53 hH ev3 dX0_likeAhead_26 ?_
    refine lv_iload_n hx hb dX0_likeAhead_29 rfl (lv_at hl 3 rfl) ?_
    obtain ⟨v4, ev4, h⟩ := zb_some h
    refine z_iald X hH ev4 dX0_likeAhead_30 ?_
    refine lv_icmp_eq (tgt := 36) hx hb dX0_likeAhead_31 (by decide) (fun c => ?_) (fun c => ?_)
    · have h := (if_pos c).symm.trans h
      refine lv_iinc (v := (x3 + (1 : Int32))) (lv' := [(3, .int (x3 + (1 : Int32))), (0, .ref x0), (1, .ref x1), (2, .int x2)]) hx hb dX0_likeAhead_36 hl (k := 3) rfl (z_ii (by decide) _) (by decide) rfl (fun ls hl => ?_)
      refine lv_goto (tgt := 14) hx hb dX0_likeAhead_39 (by decide) ?_
      exact hK14 _ _ _ _ _ h _ _ _ hH hS (lv_sub hl [1, 2, 3, 0] rfl)
    · have h := (if_neg c).symm.trans h
      refine lv_iload_n hx hb dX0_likeAhead_34 rfl (lv_at hl 3 rfl) ?_
      exact z_iret X hH hS h dX0_likeAhead_35
set_option maxRecDepth 100000 in
set_option maxHeartbeats 4000000 in
theorem uX0_likeAhead_14 {z : Nat} {N : Nat} {r : Int32} {T : zS} (X : zX D cy p s m meth c cX0_likeAhead 4 RX0 (some .int))  {S : zS} {x0 : Nat} {x1 : Nat} {x2 : Int32} {x3 : Int32} (h : rlX0_likeAhead_14 N S x0 x1 x2 x3 = some (r, T)) : zWt D cy A p l e { frames := 1, cells := 0, slots := 0, locals := 21 } s m args below meth c z 0 0 0 0 (zQ D cy A T z (some (.int r))) S 4 14 [(0, .ref x0), (1, .ref x1), (2, .int x2), (3, .int x3)] [] := by
  unfold rlX0_likeAhead_14 at h
  refine zloop_ind (P := fun y => zWt D cy A p l e { frames := 1, cells := 0, slots := 0, locals := 21 } s m args below meth c z 0 0 0 0 (zQ D cy A T z (some (.int r))) y.1 4 14 [(0, .ref y.2.1), (1, .ref y.2.2.1), (2, .int y.2.2.2.1), (3, .int y.2.2.2.2)] []) ?_ N (S, x0, x1, x2, x3) h
  intro K hK y hy
  obtain ⟨S, x0, x1, x2, x3⟩ := y
  exact wX0_likeAhead_14 X (fun S x0 x1 x2 x3 hq => hK (S, x0, x1, x2, x3) hq) hy
set_option maxRecDepth 100000 in
set_option maxHeartbeats 4000000 in
theorem wX0_likeAhead_0 {z : Nat} {N : Nat} {r : Int32} {T : zS} (X : zX D cy p s m meth c cX0_likeAhead 4 RX0 (some .int))  {S : zS} {x0 : Nat} {x1 : Nat} (h : rX0_likeAhead_0 N S x0 x1 = some (r, T)) : zWt D cy A p l e { frames := 1, cells := 0, slots := 0, locals := 21 } s m args below meth c z 0 0 0 0 (zQ D cy A T z (some (.int r))) S 4 0 [(0, .ref x0), (1, .ref x1)] [] := by
  obtain ⟨hx, hb, hml, hown, hr, hlocks, hT⟩ := id X
  intro H locs ls hH hS hl
  unfold rX0_likeAhead_0 at h
  refine lv_aload_n hx hb dX0_likeAhead_0 rfl (lv_at hl 0 rfl) ?_
  obtain ⟨v5, ev5, h⟩ := zb_some h
  refine z_geti X flX0_41 hH ev5 dX0_likeAhead_1 ?_
  refine lv_aload_n hx hb dX0_likeAhead_4 rfl (lv_at hl 1 rfl) ?_
  obtain ⟨v6, ev6, h⟩ := zb_some h
  refine z_geti X flX0_41 hH ev6 dX0_likeAhead_5 ?_
  refine z_min X hl mlX0_47 (Nat.le_of_ble_eq_true rfl) (Nat.le_of_ble_eq_true rfl) (Nat.zero_le _) (Nat.zero_le _) dX0_likeAhead_8 ?_
  refine lv_istore_n (lv' := [(2, .int (zmn v5 v6)), (0, .ref x0), (1, .ref x1)]) hx hb dX0_likeAhead_11 rfl hl (by decide) rfl (fun ls hl => ?_)
  refine lv_iconst (v := (0 : Int32)) hx hb dX0_likeAhead_12 (by decide) ?_
  refine lv_istore_n (lv' := [(3, .int (0 : Int32)), (2, .int (zmn v5 v6)), (0, .ref x0), (1, .ref x1)]) hx hb dX0_likeAhead_13 rfl hl (by decide) rfl (fun ls hl => ?_)
  exact uX0_likeAhead_14 X h _ _ _ hH hS (lv_sub hl [2, 3, 1, 0] rfl)
set_option maxRecDepth 100000 in
theorem kX0_likeAhead {N : Nat} {r : Int32} {T : zS} {S : zS} {z : Nat} {x0 : Nat} {x1 : Nat} (h : rX0_likeAhead N S x0 x1 = some (r, T)) : Met l yX0_likeAhead [.code yX0_likeAhead cX0_likeAhead 4 (some .int)] { frames := 1, cells := 0, slots := 0, locals := 21 } (zP D cy A S z [.ref x0, .ref x1]) (zQ D cy A T z (some (.int r))) 0 0 A := by
  refine z_met (lv := [(0, .ref x0), (1, .ref x1)]) (by decide) (Nat.le_of_ble_eq_true rfl) rfl ?_
  intro p e s m below meth c X H locs ls hH hS hl
  exact wX0_likeAhead_0 X h _ _ _ hH hS (lv_sub hl [0, 1] rfl)
set_option maxRecDepth 100000 in
set_option maxHeartbeats 4000000 in
theorem wX0_lay_0 {z : Nat} {N : Nat} {T : zS} (X : zX D cy p s m meth c cX0_lay 4 RX0 none)  {S : zS} {x0 : Nat} {x1 : Nat} {x2 : Nat} (h : rX0_lay_0 N S x0 x1 x2 = some T) : zWt D cy A p l e { frames := 3, cells := 0, slots := 0, locals := 76 } s m args below meth c z 0 0 0 0 (zQ D cy A T z none) S 4 0 [(0, .ref x0), (1, .ref x1), (2, .ref x2)] [] := by
  obtain ⟨hx, hb, hml, hown, hr, hlocks, hT⟩ := id X
  intro H locs ls hH hS hl
  unfold rX0_lay_0 at h
  refine lv_aload_n hx hb dX0_lay_0 rfl (lv_at hl 1 rfl) ?_
  refine lv_aload_n hx hb dX0_lay_1 rfl (lv_at hl 2 rfl) ?_
  obtain ⟨v2, S1, eS1, h⟩ := zb2_some h
  refine z_cS (As := [.ref x1, .ref x2]) X hl hH hS mlX0_30 (kX0_likeAhead eS1) rfl rfl (Nat.le_of_ble_eq_true rfl) ⟨rfl, rfl, Nat.le_of_ble_eq_true rfl, Nat.le_of_ble_eq_true rfl⟩ ⟨Nat.le_refl _, Nat.le_refl _⟩ dX0_lay_2 (fun H locs hH hS => ?_)
  refine lv_istore_n (lv' := [(3, .int v2), (0, .ref x0), (1, .ref x1), (2, .ref x2)]) hx hb dX0_lay_5 rfl hl (by decide) rfl (fun ls hl => ?_)
  refine lv_aload_n hx hb dX0_lay_6 rfl (lv_at hl 1 rfl) ?_
  refine lv_aload_n hx hb dX0_lay_7 rfl (lv_at hl 2 rfl) ?_
  refine lv_aload_n hx hb dX0_lay_8 rfl (lv_at hl 3 rfl) ?_
  refine lv_iload_n hx hb dX0_lay_9 rfl (lv_at hl 0 rfl) ?_
  obtain ⟨u3, eu3, h⟩ := zb_some h
  obtain ⟨S4, eS4, h⟩ := zb_some h
  refine z_cV (As := [.ref x1, .ref x2, .int v2]) X hl hH hS mlX0_34 eu3 (kX0_chooseMoves eS4) rfl rfl (Nat.le_of_ble_eq_true rfl) ⟨rfl, rfl, Nat.le_of_ble_eq_true rfl, Nat.le_of_ble_eq_true rfl⟩ ⟨Nat.le_refl _, Nat.le_refl _⟩ dX0_lay_10 (fun H locs hH hS => ?_)
  refine lv_aload_n hx hb dX0_lay_13 rfl (lv_at hl 1 rfl) ?_
  refine lv_aload_n hx hb dX0_lay_14 rfl (lv_at hl 2 rfl) ?_
  refine lv_aload_n hx hb dX0_lay_15 rfl (lv_at hl 3 rfl) ?_
  refine lv_iload_n hx hb dX0_lay_16 rfl (lv_at hl 0 rfl) ?_
  obtain ⟨u5, eu5, h⟩ := zb_some h
  obtain ⟨S6, eS6, h⟩ := zb_some h
  refine z_cV (As := [.ref x1, .ref x2, .int v2]) X hl hH hS mlX0_38 eu5 (kX0_follow eS6) rfl rfl (Nat.le_of_ble_eq_true rfl) ⟨rfl, rfl, Nat.le_of_ble_eq_true rfl, Nat.le_of_ble_eq_true rfl⟩ ⟨Nat.le_refl _, Nat.le_refl _⟩ dX0_lay_17 (fun H locs hH hS => ?_)
  exact z_vret X hH hS h dX0_lay_20
set_option maxRecDepth 100000 in
theorem kX0_lay {N : Nat} {T : zS} {S : zS} {z : Nat} {x0 : Nat} {x1 : Nat} {x2 : Nat} (h : rX0_lay N S x0 x1 x2 = some T) : Met l yX0_lay [.code yX0_lay cX0_lay 4 none] { frames := 3, cells := 0, slots := 0, locals := 76 } (zP D cy A S z [.ref x0, .ref x1, .ref x2]) (zQ D cy A T z none) 0 0 A := by
  refine z_met (lv := [(0, .ref x0), (1, .ref x1), (2, .ref x2)]) (by decide) (Nat.le_of_ble_eq_true rfl) rfl ?_
  intro p e s m below meth c X H locs ls hH hS hl
  exact wX0_lay_0 X h _ _ _ hH hS (lv_sub hl [0, 1, 2] rfl)
end
