section
variable {D : va_G} {cy : Nat → ClassId} {A : Nat → Prop} {p : Program} {l : Launch} {e : Env} {s : State} {m : MethodId} {args : Array Value} {below : List Frame} {meth : Method} {c : Code}
set_option maxRecDepth 100000 in
set_option maxHeartbeats 4000000 in
theorem wX8_join_132 {z : Nat} {N : Nat} {T : zS} (X : zX D cy p s m meth c cX8_join 6 RX8 none) {K101 : zS × Nat × Int32 × Int32 × Int32 × Int32 × Int32 → Option (zS)} (hK101 : ∀ (S : zS) (x0 : Nat) (x1 : Int32) (x2 : Int32) (x3 : Int32) (x4 : Int32) (x5 : Int32), K101 (S, x0, x1, x2, x3, x4, x5) = some T → zWt D cy A p l e { frames := 2, cells := 0, slots := 0, locals := 47 } s m args below meth c z 0 0 0 0 (zQ D cy A T z none) S 6 101 [(0, .ref x0), (1, .int x1), (2, .int x2), (3, .int x3), (4, .int x4), (5, .int x5)] []) {S : zS} {x0 : Nat} {x1 : Int32} {x2 : Int32} {x3 : Int32} {x4 : Int32} {x5 : Int32} {y0 : Nat} {y1 : Int32} {y2 : Nat} {y3 : Int32} {y4 : Int32} (h : fX8_join_132 N K101 S x0 x1 x2 x3 x4 x5 y0 y1 y2 y3 y4 = some T) : zWt D cy A p l e { frames := 2, cells := 0, slots := 0, locals := 47 } s m args below meth c z 0 0 0 0 (zQ D cy A T z none) S 6 132 [(0, .ref x0), (1, .int x1), (2, .int x2), (3, .int x3), (4, .int x4), (5, .int x5)] [.int y4, .int y3, .ref y2, .int y1, .ref y0] := by
  obtain ⟨hx, hb, hml, hown, hr, hlocks, hT⟩ := id X
  intro H locs ls hH hS hl
  unfold fX8_join_132 at h
  refine lv_iadd hx hb dX8_join_132 ?_
  obtain ⟨v1, ev1, h⟩ := zb_some h
  refine z_iald X hH ev1 dX8_join_133 ?_
  obtain ⟨u2, eu2, h⟩ := zb_some h
  obtain ⟨S3, eS3, h⟩ := zb_some h
  refine z_cV (As := [.int y1, .int v1]) X hl hH hS mlX8_140 eu2 (kX8_add eS3) rfl rfl (Nat.le_of_ble_eq_true rfl) ⟨rfl, rfl, Nat.le_of_ble_eq_true rfl, Nat.le_of_ble_eq_true rfl⟩ ⟨Nat.le_refl _, Nat.le_refl _⟩ dX8_join_134 (fun H locs hH hS => ?_)
  refine lv_iinc (v := (x5 + (1 : Int32))) (lv' := [(5, .int (x5 + (1 : Int32))), (0, .ref x0), (1, .int x1), (2, .int x2), (3, .int x3), (4, .int x4)]) hx hb dX8_join_137 hl (k := 5) rfl (z_ii (by decide) _) (by decide) rfl (fun ls hl => ?_)
  refine lv_goto (tgt := 101) hx hb dX8_join_140 (by decide) ?_
  exact hK101 _ _ _ _ _ _ _ h _ _ _ hH hS (lv_sub hl [1, 2, 3, 4, 5, 0] rfl)
set_option maxRecDepth 100000 in
set_option maxHeartbeats 4000000 in
theorem wX8_join_101 {z : Nat} {N : Nat} {T : zS} (X : zX D cy p s m meth c cX8_join 6 RX8 none) {K101 : zS × Nat × Int32 × Int32 × Int32 × Int32 × Int32 → Option (zS)} (hK101 : ∀ (S : zS) (x0 : Nat) (x1 : Int32) (x2 : Int32) (x3 : Int32) (x4 : Int32) (x5 : Int32), K101 (S, x0, x1, x2, x3, x4, x5) = some T → zWt D cy A p l e { frames := 2, cells := 0, slots := 0, locals := 47 } s m args below meth c z 0 0 0 0 (zQ D cy A T z none) S 6 101 [(0, .ref x0), (1, .int x1), (2, .int x2), (3, .int x3), (4, .int x4), (5, .int x5)] []) {S : zS} {x0 : Nat} {x1 : Int32} {x2 : Int32} {x3 : Int32} {x4 : Int32} {x5 : Int32} (h : fX8_join_101 N K101 S x0 x1 x2 x3 x4 x5 = some T) : zWt D cy A p l e { frames := 2, cells := 0, slots := 0, locals := 47 } s m args below meth c z 0 0 0 0 (zQ D cy A T z none) S 6 101 [(0, .ref x0), (1, .int x1), (2, .int x2), (3, .int x3), (4, .int x4), (5, .int x5)] [] := by
  obtain ⟨hx, hb, hml, hown, hr, hlocks, hT⟩ := id X
  intro H locs ls hH hS hl
  unfold fX8_join_101 at h
  refine lv_iload hx hb dX8_join_101 (lv_at hl 5 rfl) ?_
  refine lv_iload_n hx hb dX8_join_103 rfl (lv_at hl 3 rfl) ?_
  refine lv_icmp_ge (tgt := 143) hx hb dX8_join_104 (by decide) (fun c => ?_) (fun c => ?_)
  · have h := (if_pos c).symm.trans h
    exact z_vret X hH hS h dX8_join_143
  · have h := (if_neg c).symm.trans h
    refine lv_aload_n hx hb dX8_join_107 rfl (lv_at hl 0 rfl) ?_
    refine lv_iload_n hx hb dX8_join_108 rfl (lv_at hl 1 rfl) ?_
    refine lv_aload_n hx hb dX8_join_109 rfl (lv_at hl 0 rfl) ?_
    obtain ⟨v4, ev4, h⟩ := zb_some h
    refine z_getr X flX8_38 hH ev4 dX8_join_110 ?_
    refine lv_iconst (v := (4 : Int32)) hx hb dX8_join_113 (by decide) ?_
    refine lv_iload_n hx hb dX8_join_114 rfl (lv_at hl 2 rfl) ?_
    refine lv_imul hx hb dX8_join_115 ?_
    refine lv_iload hx hb dX8_join_116 (lv_at hl 4 rfl) ?_
    refine lv_if_eq (tgt := 130) hx hb dX8_join_118 (by decide) (fun c => ?_) (fun c => ?_)
    · have h := (if_pos c).symm.trans h
      refine lv_iload hx hb dX8_join_130 (lv_at hl 5 rfl) ?_
      exact wX8_join_132 X hK101 h _ _ _ hH hS (lv_sub hl [0, 1, 2, 3, 4, 5] rfl)
    · have h := (if_neg c).symm.trans h
      refine lv_iload_n hx hb dX8_join_121 rfl (lv_at hl 3 rfl) ?_
      refine lv_iconst (v := (1 : Int32)) hx hb dX8_join_122 (by decide) ?_
      refine lv_isub hx hb dX8_join_123 ?_
      refine lv_iload hx hb dX8_join_124 (lv_at hl 5 rfl) ?_
      refine lv_isub hx hb dX8_join_126 ?_
      refine lv_goto (tgt := 132) hx hb dX8_join_127 (by decide) ?_
      exact wX8_join_132 X hK101 h _ _ _ hH hS (lv_sub hl [0, 1, 2, 3, 4, 5] rfl)
set_option maxRecDepth 100000 in
set_option maxHeartbeats 4000000 in
theorem uX8_join_101 {z : Nat} {N : Nat} {T : zS} (X : zX D cy p s m meth c cX8_join 6 RX8 none)  {S : zS} {x0 : Nat} {x1 : Int32} {x2 : Int32} {x3 : Int32} {x4 : Int32} {x5 : Int32} (h : lX8_join_101 N S x0 x1 x2 x3 x4 x5 = some T) : zWt D cy A p l e { frames := 2, cells := 0, slots := 0, locals := 47 } s m args below meth c z 0 0 0 0 (zQ D cy A T z none) S 6 101 [(0, .ref x0), (1, .int x1), (2, .int x2), (3, .int x3), (4, .int x4), (5, .int x5)] [] := by
  unfold lX8_join_101 at h
  refine zloop_ind (P := fun y => zWt D cy A p l e { frames := 2, cells := 0, slots := 0, locals := 47 } s m args below meth c z 0 0 0 0 (zQ D cy A T z none) y.1 6 101 [(0, .ref y.2.1), (1, .int y.2.2.1), (2, .int y.2.2.2.1), (3, .int y.2.2.2.2.1), (4, .int y.2.2.2.2.2.1), (5, .int y.2.2.2.2.2.2)] []) ?_ N (S, x0, x1, x2, x3, x4, x5) h
  intro K hK y hy
  obtain ⟨S, x0, x1, x2, x3, x4, x5⟩ := y
  exact wX8_join_101 X (fun S x0 x1 x2 x3 x4 x5 hq => hK (S, x0, x1, x2, x3, x4, x5) hq) hy
set_option maxRecDepth 100000 in
set_option maxHeartbeats 4000000 in
theorem wX8_join_96 {z : Nat} {N : Nat} {T : zS} (X : zX D cy p s m meth c cX8_join 6 RX8 none)  {S : zS} {x0 : Nat} {x1 : Int32} {x2 : Int32} {x3 : Int32} {y0 : Int32} (h : fX8_join_96 N S x0 x1 x2 x3 y0 = some T) : zWt D cy A p l e { frames := 2, cells := 0, slots := 0, locals := 47 } s m args below meth c z 0 0 0 0 (zQ D cy A T z none) S 6 96 [(0, .ref x0), (1, .int x1), (2, .int x2), (3, .int x3)] [.int y0] := by
  obtain ⟨hx, hb, hml, hown, hr, hlocks, hT⟩ := id X
  intro H locs ls hH hS hl
  unfold fX8_join_96 at h
  refine lv_istore (lv' := [(4, .int y0), (0, .ref x0), (1, .int x1), (2, .int x2), (3, .int x3)]) hx hb dX8_join_96 hl (by decide) rfl (fun ls hl => ?_)
  refine lv_iconst (v := (0 : Int32)) hx hb dX8_join_98 (by decide) ?_
  refine lv_istore (lv' := [(5, .int (0 : Int32)), (4, .int y0), (0, .ref x0), (1, .int x1), (2, .int x2), (3, .int x3)]) hx hb dX8_join_99 hl (by decide) rfl (fun ls hl => ?_)
  exact uX8_join_101 X h _ _ _ hH hS (lv_sub hl [2, 3, 4, 5, 1, 0] rfl)
set_option maxRecDepth 100000 in
set_option maxHeartbeats 4000000 in
theorem wX8_join_95 {z : Nat} {N : Nat} {T : zS} (X : zX D cy p s m meth c cX8_join 6 RX8 none)  {S : zS} {x0 : Nat} {x1 : Int32} {x2 : Int32} {x3 : Int32} (h : fX8_join_95 N S x0 x1 x2 x3 = some T) : zWt D cy A p l e { frames := 2, cells := 0, slots := 0, locals := 47 } s m args below meth c z 0 0 0 0 (zQ D cy A T z none) S 6 95 [(0, .ref x0), (1, .int x1), (2, .int x2), (3, .int x3)] [] := by
  obtain ⟨hx, hb, hml, hown, hr, hlocks, hT⟩ := id X
  intro H locs ls hH hS hl
  unfold fX8_join_95 at h
  refine lv_iconst (v := (0 : Int32)) hx hb dX8_join_95 (by decide) ?_
  exact wX8_join_96 X h _ _ _ hH hS (lv_sub hl [0, 1, 2, 3] rfl)
set_option maxRecDepth 100000 in
set_option maxHeartbeats 4000000 in
theorem wX8_join_58 {z : Nat} {N : Nat} {T : zS} (X : zX D cy p s m meth c cX8_join 6 RX8 none)  {S : zS} {y0 : Nat} {y1 : Int32} {y2 : Nat} {y3 : Int32} {y4 : Int32} (h : fX8_join_58 N S y0 y1 y2 y3 y4 = some T) : zWt D cy A p l e { frames := 2, cells := 0, slots := 0, locals := 47 } s m args below meth c z 0 0 0 0 (zQ D cy A T z none) S 6 58 [] [.int y4, .int y3, .ref y2, .int y1, .ref y0] := by
  obtain ⟨hx, hb, hml, hown, hr, hlocks, hT⟩ := id X
  intro H locs ls hH hS hl
  unfold fX8_join_58 at h
  refine lv_iadd hx hb dX8_join_58 ?_
  obtain ⟨v5, ev5, h⟩ := zb_some h
  refine z_iald X hH ev5 dX8_join_59 ?_
  obtain ⟨u6, eu6, h⟩ := zb_some h
  obtain ⟨S7, eS7, h⟩ := zb_some h
  refine z_cV (As := [.int y1, .int v5]) X hl hH hS mlX8_140 eu6 (kX8_add eS7) rfl rfl (Nat.le_of_ble_eq_true rfl) ⟨rfl, rfl, Nat.le_of_ble_eq_true rfl, Nat.le_of_ble_eq_true rfl⟩ ⟨Nat.le_refl _, Nat.le_refl _⟩ dX8_join_60 (fun H locs hH hS => ?_)
  exact z_vret X hH hS h dX8_join_63
set_option maxRecDepth 100000 in
set_option maxHeartbeats 4000000 in
theorem wX8_join_0 {z : Nat} {N : Nat} {T : zS} (X : zX D cy p s m meth c cX8_join 6 RX8 none)  {S : zS} {x0 : Nat} {x1 : Int32} {x2 : Int32} (h : fX8_join_0 N S x0 x1 x2 = some T) : zWt D cy A p l e { frames := 2, cells := 0, slots := 0, locals := 47 } s m args below meth c z 0 0 0 0 (zQ D cy A T z none) S 6 0 [(0, .ref x0), (1, .int x1), (2, .int x2)] [] := by
  obtain ⟨hx, hb, hml, hown, hr, hlocks, hT⟩ := id X
  intro H locs ls hH hS hl
  unfold fX8_join_0 at h
  refine lv_aload_n hx hb dX8_join_0 rfl (lv_at hl 0 rfl) ?_
  refine lv_iconst (v := (0 : Int32)) hx hb dX8_join_1 (by decide) ?_
  obtain ⟨S8, eS8, h⟩ := zb_some h
  refine z_puti X flX8_133 fpX8_18 hH hS eS8 dX8_join_2 (fun H locs hH hS => ?_)
  refine lv_aload_n hx hb dX8_join_5 rfl (lv_at hl 0 rfl) ?_
  obtain ⟨v9, ev9, h⟩ := zb_some h
  refine z_getr X flX8_35 hH ev9 dX8_join_6 ?_
  refine lv_iload_n hx hb dX8_join_9 rfl (lv_at hl 2 rfl) ?_
  obtain ⟨v10, ev10, h⟩ := zb_some h
  refine z_iald X hH ev10 dX8_join_10 ?_
  refine lv_istore_n (lv' := [(3, .int v10), (0, .ref x0), (1, .int x1), (2, .int x2)]) hx hb dX8_join_11 rfl hl (by decide) rfl (fun ls hl => ?_)
  refine lv_aload_n hx hb dX8_join_12 rfl (lv_at hl 1 rfl) ?_
  obtain ⟨v11, ev11, h⟩ := zb_some h
  refine z_getr X flX8_26 hH ev11 dX8_join_13 ?_
  refine lv_iload_n hx hb dX8_join_16 rfl (lv_at hl 3 rfl) ?_
  obtain ⟨v12, ev12, h⟩ := zb_some h
  refine z_iald X hH ev12 dX8_join_17 ?_
  refine lv_iconst (v := (5 : Int32)) hx hb dX8_join_18 (by decide) ?_
  refine lv_icmp_ne (tgt := 64) hx hb dX8_join_19 (by decide) (fun c => ?_) (fun c => ?_)
  · have h := (if_neg c).symm.trans h
    refine lv_aload_n hx hb dX8_join_64 rfl (lv_at hl 1 rfl) ?_
    obtain ⟨v13, ev13, h⟩ := zb_some h
    refine z_getr X flX8_26 hH ev13 dX8_join_65 ?_
    refine lv_iload_n hx hb dX8_join_68 rfl (lv_at hl 3 rfl) ?_
    obtain ⟨v14, ev14, h⟩ := zb_some h
    refine z_iald X hH ev14 dX8_join_69 ?_
    refine lv_iconst (v := (2 : Int32)) hx hb dX8_join_70 (by decide) ?_
    refine lv_icmp_ne (tgt := 95) hx hb dX8_join_71 (by decide) (fun c => ?_) (fun c => ?_)
    · have h := (if_neg c).symm.trans h
      exact wX8_join_95 X h _ _ _ hH hS (lv_sub hl [1, 2, 3, 0] rfl)
    · have h := (if_pos c).symm.trans h
      refine lv_aload_n hx hb dX8_join_74 rfl (lv_at hl 1 rfl) ?_
      obtain ⟨v15, ev15, h⟩ := zb_some h
      refine z_getr X flX8_41 hH ev15 dX8_join_75 ?_
      refine lv_aload_n hx hb dX8_join_78 rfl (lv_at hl 1 rfl) ?_
      obtain ⟨v16, ev16, h⟩ := zb_some h
      refine z_getr X flX8_32 hH ev16 dX8_join_79 ?_
      refine lv_iload_n hx hb dX8_join_82 rfl (lv_at hl 3 rfl) ?_
      obtain ⟨v17, ev17, h⟩ := zb_some h
      refine z_iald X hH ev17 dX8_join_83 ?_
      obtain ⟨v18, ev18, h⟩ := zb_some h
      refine z_iald X hH ev18 dX8_join_84 ?_
      refine lv_iconst (v := (2 : Int32)) hx hb dX8_join_85 (by decide) ?_
      refine lv_irem hx hb dX8_join_86 (by decide) ?_
      refine lv_iconst (v := (1 : Int32)) hx hb dX8_join_87 (by decide) ?_
      refine lv_icmp_ne (tgt := 95) hx hb dX8_join_88 (by decide) (fun c => ?_) (fun c => ?_)
      · have h := (if_neg c).symm.trans h
        exact wX8_join_95 X h _ _ _ hH hS (lv_sub hl [1, 2, 3, 0] rfl)
      · have h := (if_pos c).symm.trans h
        refine lv_iconst (v := (1 : Int32)) hx hb dX8_join_91 (by decide) ?_
        refine lv_goto (tgt := 96) hx hb dX8_join_92 (by decide) ?_
        exact wX8_join_96 X h _ _ _ hH hS (lv_sub hl [1, 2, 3, 0] rfl)
  · have h := (if_pos c).symm.trans h
    refine lv_aload_n hx hb dX8_join_22 rfl (lv_at hl 1 rfl) ?_
    refine lv_iload_n hx hb dX8_join_23 rfl (lv_at hl 2 rfl) ?_
    refine lv_aload_n hx hb dX8_join_24 rfl (lv_at hl 1 rfl) ?_
    obtain ⟨v19, ev19, h⟩ := zb_some h
    refine z_getr X flX8_38 hH ev19 dX8_join_25 ?_
    refine lv_iconst (v := (4 : Int32)) hx hb dX8_join_28 (by decide) ?_
    refine lv_iload_n hx hb dX8_join_29 rfl (lv_at hl 3 rfl) ?_
    refine lv_imul hx hb dX8_join_30 ?_
    refine lv_aload_n hx hb dX8_join_31 rfl (lv_at hl 1 rfl) ?_
    obtain ⟨v20, ev20, h⟩ := zb_some h
    refine z_getr X flX8_41 hH ev20 dX8_join_32 ?_
    refine lv_aload_n hx hb dX8_join_35 rfl (lv_at hl 1 rfl) ?_
    obtain ⟨v21, ev21, h⟩ := zb_some h
    refine z_getr X flX8_32 hH ev21 dX8_join_36 ?_
    refine lv_iload_n hx hb dX8_join_39 rfl (lv_at hl 3 rfl) ?_
    obtain ⟨v22, ev22, h⟩ := zb_some h
    refine z_iald X hH ev22 dX8_join_40 ?_
    obtain ⟨v23, ev23, h⟩ := zb_some h
    refine z_iald X hH ev23 dX8_join_41 ?_
    refine lv_aload_n hx hb dX8_join_42 rfl (lv_at hl 1 rfl) ?_
    obtain ⟨v24, ev24, h⟩ := zb_some h
    refine z_getr X flX8_29 hH ev24 dX8_join_43 ?_
    refine lv_iload_n hx hb dX8_join_46 rfl (lv_at hl 3 rfl) ?_
    obtain ⟨v25, ev25, h⟩ := zb_some h
    refine z_iald X hH ev25 dX8_join_47 ?_
    refine lv_icmp_ge (tgt := 55) hx hb dX8_join_48 (by decide) (fun c => ?_) (fun c => ?_)
    · have h := (if_pos c).symm.trans h
      refine lv_iload_n hx hb dX8_join_55 rfl (lv_at hl 0 rfl) ?_
      refine lv_iconst (v := (1 : Int32)) hx hb dX8_join_56 (by decide) ?_
      refine lv_isub hx hb dX8_join_57 ?_
      exact wX8_join_58 X h _ _ _ hH hS (lv_sub hl [] rfl)
    · have h := (if_neg c).symm.trans h
      refine lv_iconst (v := (0 : Int32)) hx hb dX8_join_51 (by decide) ?_
      refine lv_goto (tgt := 58) hx hb dX8_join_52 (by decide) ?_
      exact wX8_join_58 X h _ _ _ hH hS (lv_sub hl [] rfl)
set_option maxRecDepth 100000 in
theorem kX8_join {N : Nat} {T : zS} {S : zS} {z : Nat} {x0 : Nat} {x1 : Int32} {x2 : Int32} (h : fX8_join N S x0 x1 x2 = some T) : Met l yX8_join [.code yX8_join cX8_join 6 none] { frames := 2, cells := 0, slots := 0, locals := 47 } (zP D cy A S z [.ref x0, .int x1, .int x2]) (zQ D cy A T z none) 0 0 A := by
  refine z_met (lv := [(0, .ref x0), (1, .int x1), (2, .int x2)]) (by decide) (Nat.le_of_ble_eq_true rfl) rfl ?_
  intro p e s m below meth c X H locs ls hH hS hl
  exact wX8_join_0 X h _ _ _ hH hS (lv_sub hl [0, 1, 2] rfl)
set_option maxRecDepth 100000 in
set_option maxHeartbeats 4000000 in
theorem wX8_strip_40 {z : Nat} {N : Nat} {T : zS} (X : zX D cy p s m meth c cX8_strip 4 RX8 none) {K4 : zS × Nat × Int32 × Int32 × Int32 → Option (zS)} (hK4 : ∀ (S : zS) (x0 : Nat) (x1 : Int32) (x2 : Int32) (x3 : Int32), K4 (S, x0, x1, x2, x3) = some T → zWt D cy A p l e { frames := 0, cells := 0, slots := 0, locals := 0 } s m args below meth c z 0 0 0 0 (zQ D cy A T z none) S 4 4 [(0, .ref x0), (1, .int x1), (2, .int x2), (3, .int x3)] []) {S : zS} {x0 : Nat} {x1 : Int32} {x2 : Int32} {x3 : Int32} (h : fX8_strip_40 N K4 S x0 x1 x2 x3 = some T) : zWt D cy A p l e { frames := 0, cells := 0, slots := 0, locals := 0 } s m args below meth c z 0 0 0 0 (zQ D cy A T z none) S 4 40 [(0, .ref x0), (1, .int x1), (2, .int x2), (3, .int x3)] [] := by
  obtain ⟨hx, hb, hml, hown, hr, hlocks, hT⟩ := id X
  intro H locs ls hH hS hl
  unfold fX8_strip_40 at h
  refine lv_iinc (v := (x3 + (1 : Int32))) (lv' := [(3, .int (x3 + (1 : Int32))), (0, .ref x0), (1, .int x1), (2, .int x2)]) hx hb dX8_strip_40 hl (k := 3) rfl (z_ii (by decide) _) (by decide) rfl (fun ls hl => ?_)
  refine lv_goto (tgt := 4) hx hb dX8_strip_43 (by decide) ?_
  exact hK4 _ _ _ _ _ h _ _ _ hH hS (lv_sub hl [1, 2, 3, 0] rfl)
set_option maxRecDepth 100000 in
set_option maxHeartbeats 4000000 in
theorem wX8_strip_4 {z : Nat} {N : Nat} {T : zS} (X : zX D cy p s m meth c cX8_strip 4 RX8 none) {K4 : zS × Nat × Int32 × Int32 × Int32 → Option (zS)} (hK4 : ∀ (S : zS) (x0 : Nat) (x1 : Int32) (x2 : Int32) (x3 : Int32), K4 (S, x0, x1, x2, x3) = some T → zWt D cy A p l e { frames := 0, cells := 0, slots := 0, locals := 0 } s m args below meth c z 0 0 0 0 (zQ D cy A T z none) S 4 4 [(0, .ref x0), (1, .int x1), (2, .int x2), (3, .int x3)] []) {S : zS} {x0 : Nat} {x1 : Int32} {x2 : Int32} {x3 : Int32} (h : fX8_strip_4 N K4 S x0 x1 x2 x3 = some T) : zWt D cy A p l e { frames := 0, cells := 0, slots := 0, locals := 0 } s m args below meth c z 0 0 0 0 (zQ D cy A T z none) S 4 4 [(0, .ref x0), (1, .int x1), (2, .int x2), (3, .int x3)] [] := by
  obtain ⟨hx, hb, hml, hown, hr, hlocks, hT⟩ := id X
  intro H locs ls hH hS hl
  unfold fX8_strip_4 at h
  refine lv_iload_n hx hb dX8_strip_4 rfl (lv_at hl 3 rfl) ?_
  refine lv_aload_n hx hb dX8_strip_5 rfl (lv_at hl 0 rfl) ?_
  obtain ⟨v1, ev1, h⟩ := zb_some h
  refine z_geti X flX8_133 hH ev1 dX8_strip_6 ?_
  refine lv_icmp_ge (tgt := 46) hx hb dX8_strip_9 (by decide) (fun c => ?_) (fun c => ?_)
  · have h := (if_pos c).symm.trans h
    refine lv_aload_n hx hb dX8_strip_46 rfl (lv_at hl 0 rfl) ?_
    refine lv_iload_n hx hb dX8_strip_47 rfl (lv_at hl 2 rfl) ?_
    obtain ⟨S2, eS2, h⟩ := zb_some h
    refine z_puti X flX8_133 fpX8_18 hH hS eS2 dX8_strip_48 (fun H locs hH hS => ?_)
    exact z_vret X hH hS h dX8_strip_51
  · have h := (if_neg c).symm.trans h
    refine lv_aload_n hx hb dX8_strip_12 rfl (lv_at hl 0 rfl) ?_
    obtain ⟨v3, ev3, h⟩ := zb_some h
    refine z_getr X flX8_50 hH ev3 dX8_strip_13 ?_
    refine lv_iload_n hx hb dX8_strip_16 rfl (lv_at hl 3 rfl) ?_
    obtain ⟨v4, ev4, h⟩ := zb_some h
    refine z_iald X hH ev4 dX8_strip_17 ?_
    refine lv_iload_n hx hb dX8_strip_18 rfl (lv_at hl 1 rfl) ?_
    refine lv_icmp_ne (tgt := 25) hx hb dX8_strip_19 (by decide) (fun c => ?_) (fun c => ?_)
    · have h := (if_neg c).symm.trans h
      refine lv_aload_n hx hb dX8_strip_25 rfl (lv_at hl 0 rfl) ?_
      obtain ⟨v5, ev5, h⟩ := zb_some h
      refine z_getr X flX8_50 hH ev5 dX8_strip_26 ?_
      refine lv_iload_n hx hb dX8_strip_29 rfl (lv_at hl 2 rfl) ?_
      refine lv_aload_n hx hb dX8_strip_30 rfl (lv_at hl 0 rfl) ?_
      obtain ⟨v6, ev6, h⟩ := zb_some h
      refine z_getr X flX8_50 hH ev6 dX8_strip_31 ?_
      refine lv_iload_n hx hb dX8_strip_34 rfl (lv_at hl 3 rfl) ?_
      obtain ⟨v7, ev7, h⟩ := zb_some h
      refine z_iald X hH ev7 dX8_strip_35 ?_
      obtain ⟨S8, eS8, h⟩ := zb_some h
      refine z_iast X hH hS eS8 dX8_strip_36 (fun H locs hH hS => ?_)
      refine lv_iinc (v := (x2 + (1 : Int32))) (lv' := [(2, .int (x2 + (1 : Int32))), (0, .ref x0), (1, .int x1), (3, .int x3)]) hx hb dX8_strip_37 hl (k := 2) rfl (z_ii (by decide) _) (by decide) rfl (fun ls hl => ?_)
      exact wX8_strip_40 X hK4 h _ _ _ hH hS (lv_sub hl [1, 2, 0, 3] rfl)
    · have h := (if_pos c).symm.trans h
      refine lv_goto (tgt := 40) hx hb dX8_strip_22 (by decide) ?_
      exact wX8_strip_40 X hK4 h _ _ _ hH hS (lv_sub hl [0, 1, 2, 3] rfl)
set_option maxRecDepth 100000 in
set_option maxHeartbeats 4000000 in
theorem uX8_strip_4 {z : Nat} {N : Nat} {T : zS} (X : zX D cy p s m meth c cX8_strip 4 RX8 none)  {S : zS} {x0 : Nat} {x1 : Int32} {x2 : Int32} {x3 : Int32} (h : lX8_strip_4 N S x0 x1 x2 x3 = some T) : zWt D cy A p l e { frames := 0, cells := 0, slots := 0, locals := 0 } s m args below meth c z 0 0 0 0 (zQ D cy A T z none) S 4 4 [(0, .ref x0), (1, .int x1), (2, .int x2), (3, .int x3)] [] := by
  unfold lX8_strip_4 at h
  refine zloop_ind (P := fun y => zWt D cy A p l e { frames := 0, cells := 0, slots := 0, locals := 0 } s m args below meth c z 0 0 0 0 (zQ D cy A T z none) y.1 4 4 [(0, .ref y.2.1), (1, .int y.2.2.1), (2, .int y.2.2.2.1), (3, .int y.2.2.2.2)] []) ?_ N (S, x0, x1, x2, x3) h
  intro K hK y hy
  obtain ⟨S, x0, x1, x2, x3⟩ := y
  exact wX8_strip_4 X (fun S x0 x1 x2 x3 hq => hK (S, x0, x1, x2, x3) hq) hy
set_option maxRecDepth 100000 in
set_option maxHeartbeats 4000000 in
theorem wX8_strip_0 {z : Nat} {N : Nat} {T : zS} (X : zX D cy p s m meth c cX8_strip 4 RX8 none)  {S : zS} {x0 : Nat} {x1 : Int32} (h : fX8_strip_0 N S x0 x1 = some T) : zWt D cy A p l e { frames := 0, cells := 0, slots := 0, locals := 0 } s m args below meth c z 0 0 0 0 (zQ D cy A T z none) S 4 0 [(0, .ref x0), (1, .int x1)] [] := by
  obtain ⟨hx, hb, hml, hown, hr, hlocks, hT⟩ := id X
  intro H locs ls hH hS hl
  unfold fX8_strip_0 at h
  refine lv_iconst (v := (0 : Int32)) hx hb dX8_strip_0 (by decide) ?_
  refine lv_istore_n (lv' := [(2, .int (0 : Int32)), (0, .ref x0), (1, .int x1)]) hx hb dX8_strip_1 rfl hl (by decide) rfl (fun ls hl => ?_)
  refine lv_iconst (v := (0 : Int32)) hx hb dX8_strip_2 (by decide) ?_
  refine lv_istore_n (lv' := [(3, .int (0 : Int32)), (2, .int (0 : Int32)), (0, .ref x0), (1, .int x1)]) hx hb dX8_strip_3 rfl hl (by decide) rfl (fun ls hl => ?_)
  exact uX8_strip_4 X h _ _ _ hH hS (lv_sub hl [2, 3, 1, 0] rfl)
set_option maxRecDepth 100000 in
theorem kX8_strip {N : Nat} {T : zS} {S : zS} {z : Nat} {x0 : Nat} {x1 : Int32} (h : fX8_strip N S x0 x1 = some T) : Met l yX8_strip [.code yX8_strip cX8_strip 4 none] { frames := 0, cells := 0, slots := 0, locals := 0 } (zP D cy A S z [.ref x0, .int x1]) (zQ D cy A T z none) 0 0 A := by
  refine z_met (lv := [(0, .ref x0), (1, .int x1)]) (by decide) (Nat.le_of_ble_eq_true rfl) rfl ?_
  intro p e s m below meth c X H locs ls hH hS hl
  exact wX8_strip_0 X h _ _ _ hH hS (lv_sub hl [0, 1] rfl)
set_option maxRecDepth 100000 in
set_option maxHeartbeats 4000000 in
theorem wX8_sort_66 {z : Nat} {N : Nat} {T : zS} (X : zX D cy p s m meth c cX8_sort 4 RX8 none) {K57 : zS × Nat × Int32 × Int32 → Option (zS)} (hK57 : ∀ (S : zS) (x0 : Nat) (x1 : Int32) (x2 : Int32), K57 (S, x0, x1, x2) = some T → zWt D cy A p l e { frames := 0, cells := 0, slots := 0, locals := 0 } s m args below meth c z 0 0 0 0 (zQ D cy A T z none) S 4 57 [(0, .ref x0), (1, .int x1), (2, .int x2)] []) {K66 : zS × Nat × Int32 × Int32 × Int32 → Option (zS)} (hK66 : ∀ (S : zS) (x0 : Nat) (x1 : Int32) (x2 : Int32) (x3 : Int32), K66 (S, x0, x1, x2, x3) = some T → zWt D cy A p l e { frames := 0, cells := 0, slots := 0, locals := 0 } s m args below meth c z 0 0 0 0 (zQ D cy A T z none) S 4 66 [(0, .ref x0), (1, .int x1), (2, .int x2), (3, .int x3)] []) {S : zS} {x0 : Nat} {x1 : Int32} {x2 : Int32} {x3 : Int32} (h : fX8_sort_66 N K57 K66 S x0 x1 x2 x3 = some T) : zWt D cy A p l e { frames := 0, cells := 0, slots := 0, locals := 0 } s m args below meth c z 0 0 0 0 (zQ D cy A T z none) S 4 66 [(0, .ref x0), (1, .int x1), (2, .int x2), (3, .int x3)] [] := by
  obtain ⟨hx, hb, hml, hown, hr, hlocks, hT⟩ := id X
  intro H locs ls hH hS hl
  unfold fX8_sort_66 at h
  refine lv_iload_n hx hb dX8_sort_66 rfl (lv_at hl 3 rfl) ?_
  refine lv_aload_n hx hb dX8_sort_67 rfl (lv_at hl 0 rfl) ?_
  obtain ⟨v1, ev1, h⟩ := zb_some h
  refine z_getr X flX8_53 hH ev1 dX8_sort_68 ?_
  refine lv_iload_n hx hb dX8_sort_71 rfl (lv_at hl 2 rfl) ?_
  obtain ⟨v2, ev2, h⟩ := zb_some h
  refine z_iald X hH ev2 dX8_sort_72 ?_
  refine lv_icmp_ge (tgt := 92) hx hb dX8_sort_73 (by decide) (fun c => ?_) (fun c => ?_)
  · have h := (if_pos c).symm.trans h
    refine lv_iinc (v := (x2 + (1 : Int32))) (lv' := [(2, .int (x2 + (1 : Int32))), (0, .ref x0), (1, .int x1), (3, .int x3)]) hx hb dX8_sort_92 hl (k := 2) rfl (z_ii (by decide) _) (by decide) rfl (fun ls hl => ?_)
    refine lv_goto (tgt := 57) hx hb dX8_sort_95 (by decide) ?_
    exact hK57 _ _ _ _ h _ _ _ hH hS (lv_sub hl [1, 2, 0] rfl)
  · have h := (if_neg c).symm.trans h
    refine lv_aload_n hx hb dX8_sort_76 rfl (lv_at hl 0 rfl) ?_
    obtain ⟨v3, ev3, h⟩ := zb_some h
    refine z_getr X flX8_50 hH ev3 dX8_sort_77 ?_
    refine lv_iload_n hx hb dX8_sort_80 rfl (lv_at hl 1 rfl) ?_
    refine lv_iload_n hx hb dX8_sort_81 rfl (lv_at hl 2 rfl) ?_
    obtain ⟨S4, eS4, h⟩ := zb_some h
    refine z_iast X hH hS eS4 dX8_sort_82 (fun H locs hH hS => ?_)
    refine lv_iinc (v := (x1 + (1 : Int32))) (lv' := [(1, .int (x1 + (1 : Int32))), (0, .ref x0), (2, .int x2), (3, .int x3)]) hx hb dX8_sort_83 hl (k := 1) rfl (z_ii (by decide) _) (by decide) rfl (fun ls hl => ?_)
    refine lv_iinc (v := (x3 + (1 : Int32))) (lv' := [(3, .int (x3 + (1 : Int32))), (1, .int (x1 + (1 : Int32))), (0, .ref x0), (2, .int x2)]) hx hb dX8_sort_86 hl (k := 3) rfl (z_ii (by decide) _) (by decide) rfl (fun ls hl => ?_)
    refine lv_goto (tgt := 66) hx hb dX8_sort_89 (by decide) ?_
    exact hK66 _ _ _ _ _ h _ _ _ hH hS (lv_sub hl [2, 1, 3, 0] rfl)
set_option maxRecDepth 100000 in
set_option maxHeartbeats 4000000 in
theorem uX8_sort_66 {z : Nat} {N : Nat} {T : zS} (X : zX D cy p s m meth c cX8_sort 4 RX8 none) {K57 : zS × Nat × Int32 × Int32 → Option (zS)} (hK57 : ∀ (S : zS) (x0 : Nat) (x1 : Int32) (x2 : Int32), K57 (S, x0, x1, x2) = some T → zWt D cy A p l e { frames := 0, cells := 0, slots := 0, locals := 0 } s m args below meth c z 0 0 0 0 (zQ D cy A T z none) S 4 57 [(0, .ref x0), (1, .int x1), (2, .int x2)] []) {S : zS} {x0 : Nat} {x1 : Int32} {x2 : Int32} {x3 : Int32} (h : lX8_sort_66 N K57 S x0 x1 x2 x3 = some T) : zWt D cy A p l e { frames := 0, cells := 0, slots := 0, locals := 0 } s m args below meth c z 0 0 0 0 (zQ D cy A T z none) S 4 66 [(0, .ref x0), (1, .int x1), (2, .int x2), (3, .int x3)] [] := by
  unfold lX8_sort_66 at h
  refine zloop_ind (P := fun y => zWt D cy A p l e { frames := 0, cells := 0, slots := 0, locals := 0 } s m args below meth c z 0 0 0 0 (zQ D cy A T z none) y.1 4 66 [(0, .ref y.2.1), (1, .int y.2.2.1), (2, .int y.2.2.2.1), (3, .int y.2.2.2.2)] []) ?_ N (S, x0, x1, x2, x3) h
  intro K hK y hy
  obtain ⟨S, x0, x1, x2, x3⟩ := y
  exact wX8_sort_66 X hK57 (fun S x0 x1 x2 x3 hq => hK (S, x0, x1, x2, x3) hq) hy
set_option maxRecDepth 100000 in
set_option maxHeartbeats 4000000 in
theorem wX8_sort_57 {z : Nat} {N : Nat} {T : zS} (X : zX D cy p s m meth c cX8_sort 4 RX8 none) {K57 : zS × Nat × Int32 × Int32 → Option (zS)} (hK57 : ∀ (S : zS) (x0 : Nat) (x1 : Int32) (x2 : Int32), K57 (S, x0, x1, x2) = some T → zWt D cy A p l e { frames := 0, cells := 0, slots := 0, locals := 0 } s m args below meth c z 0 0 0 0 (zQ D cy A T z none) S 4 57 [(0, .ref x0), (1, .int x1), (2, .int x2)] []) {S : zS} {x0 : Nat} {x1 : Int32} {x2 : Int32} (h : fX8_sort_57 N K57 S x0 x1 x2 = some T) : zWt D cy A p l e { frames := 0, cells := 0, slots := 0, locals := 0 } s m args below meth c z 0 0 0 0 (zQ D cy A T z none) S 4 57 [(0, .ref x0), (1, .int x1), (2, .int x2)] [] := by
  obtain ⟨hx, hb, hml, hown, hr, hlocks, hT⟩ := id X
  intro H locs ls hH hS hl
  unfold fX8_sort_57 at h
  refine lv_iload_n hx hb dX8_sort_57 rfl (lv_at hl 2 rfl) ?_
  refine lv_sipush (v := (256 : Int32)) hx hb dX8_sort_58 (by decide) ?_
  refine lv_icmp_ge (tgt := 98) hx hb dX8_sort_61 (by decide) (fun c => ?_) (fun c => ?_)
  · have h := (if_pos c).symm.trans h
    exact z_vret X hH hS h dX8_sort_98
  · have h := (if_neg c).symm.trans h
    refine lv_iconst (v := (0 : Int32)) hx hb dX8_sort_64 (by decide) ?_
    refine lv_istore_n (lv' := [(3, .int (0 : Int32)), (0, .ref x0), (1, .int x1), (2, .int x2)]) hx hb dX8_sort_65 rfl hl (by decide) rfl (fun ls hl => ?_)
    exact uX8_sort_66 X hK57 h _ _ _ hH hS (lv_sub hl [1, 2, 3, 0] rfl)
set_option maxRecDepth 100000 in
set_option maxHeartbeats 4000000 in
theorem uX8_sort_57 {z : Nat} {N : Nat} {T : zS} (X : zX D cy p s m meth c cX8_sort 4 RX8 none)  {S : zS} {x0 : Nat} {x1 : Int32} {x2 : Int32} (h : lX8_sort_57 N S x0 x1 x2 = some T) : zWt D cy A p l e { frames := 0, cells := 0, slots := 0, locals := 0 } s m args below meth c z 0 0 0 0 (zQ D cy A T z none) S 4 57 [(0, .ref x0), (1, .int x1), (2, .int x2)] [] := by
  unfold lX8_sort_57 at h
  refine zloop_ind (P := fun y => zWt D cy A p l e { frames := 0, cells := 0, slots := 0, locals := 0 } s m args below meth c z 0 0 0 0 (zQ D cy A T z none) y.1 4 57 [(0, .ref y.2.1), (1, .int y.2.2.1), (2, .int y.2.2.2)] []) ?_ N (S, x0, x1, x2) h
  intro K hK y hy
  obtain ⟨S, x0, x1, x2⟩ := y
  exact wX8_sort_57 X (fun S x0 x1 x2 hq => hK (S, x0, x1, x2) hq) hy
set_option maxRecDepth 100000 in
set_option maxHeartbeats 4000000 in
theorem wX8_sort_24 {z : Nat} {N : Nat} {T : zS} (X : zX D cy p s m meth c cX8_sort 4 RX8 none) {K24 : zS × Nat × Int32 → Option (zS)} (hK24 : ∀ (S : zS) (x0 : Nat) (x1 : Int32), K24 (S, x0, x1) = some T → zWt D cy A p l e { frames := 0, cells := 0, slots := 0, locals := 0 } s m args below meth c z 0 0 0 0 (zQ D cy A T z none) S 4 24 [(0, .ref x0), (1, .int x1)] []) {S : zS} {x0 : Nat} {x1 : Int32} (h : fX8_sort_24 N K24 S x0 x1 = some T) : zWt D cy A p l e { frames := 0, cells := 0, slots := 0, locals := 0 } s m args below meth c z 0 0 0 0 (zQ D cy A T z none) S 4 24 [(0, .ref x0), (1, .int x1)] [] := by
  obtain ⟨hx, hb, hml, hown, hr, hlocks, hT⟩ := id X
  intro H locs ls hH hS hl
  unfold fX8_sort_24 at h
  refine lv_iload_n hx hb dX8_sort_24 rfl (lv_at hl 1 rfl) ?_
  refine lv_aload_n hx hb dX8_sort_25 rfl (lv_at hl 0 rfl) ?_
  obtain ⟨v5, ev5, h⟩ := zb_some h
  refine z_geti X flX8_133 hH ev5 dX8_sort_26 ?_
  refine lv_icmp_ge (tgt := 53) hx hb dX8_sort_29 (by decide) (fun c => ?_) (fun c => ?_)
  · have h := (if_pos c).symm.trans h
    refine lv_iconst (v := (0 : Int32)) hx hb dX8_sort_53 (by decide) ?_
    refine lv_istore_n (lv' := [(1, .int (0 : Int32)), (0, .ref x0)]) hx hb dX8_sort_54 rfl hl (by decide) rfl (fun ls hl => ?_)
    refine lv_iconst (v := (0 : Int32)) hx hb dX8_sort_55 (by decide) ?_
    refine lv_istore_n (lv' := [(2, .int (0 : Int32)), (1, .int (0 : Int32)), (0, .ref x0)]) hx hb dX8_sort_56 rfl hl (by decide) rfl (fun ls hl => ?_)
    exact uX8_sort_57 X h _ _ _ hH hS (lv_sub hl [2, 1, 0] rfl)
  · have h := (if_neg c).symm.trans h
    refine lv_aload_n hx hb dX8_sort_32 rfl (lv_at hl 0 rfl) ?_
    obtain ⟨v6, ev6, h⟩ := zb_some h
    refine z_getr X flX8_53 hH ev6 dX8_sort_33 ?_
    refine lv_aload_n hx hb dX8_sort_36 rfl (lv_at hl 0 rfl) ?_
    obtain ⟨v7, ev7, h⟩ := zb_some h
    refine z_getr X flX8_50 hH ev7 dX8_sort_37 ?_
    refine lv_iload_n hx hb dX8_sort_40 rfl (lv_at hl 1 rfl) ?_
    obtain ⟨v8, ev8, h⟩ := zb_some h
    refine z_iald X hH ev8 dX8_sort_41 ?_
    refine lv_dup2_11 hx hb dX8_sort_42 rfl rfl ?_
    obtain ⟨v9, ev9, h⟩ := zb_some h
    refine z_iald X hH ev9 dX8_sort_43 ?_
    refine lv_iconst (v := (1 : Int32)) hx hb dX8_sort_44 (by decide) ?_
    refine lv_iadd hx hb dX8_sort_45 ?_
    obtain ⟨S10, eS10, h⟩ := zb_some h
    refine z_iast X hH hS eS10 dX8_sort_46 (fun H locs hH hS => ?_)
    refine lv_iinc (v := (x1 + (1 : Int32))) (lv' := [(1, .int (x1 + (1 : Int32))), (0, .ref x0)]) hx hb dX8_sort_47 hl (k := 1) rfl (z_ii (by decide) _) (by decide) rfl (fun ls hl => ?_)
    refine lv_goto (tgt := 24) hx hb dX8_sort_50 (by decide) ?_
    exact hK24 _ _ _ h _ _ _ hH hS (lv_sub hl [1, 0] rfl)
set_option maxRecDepth 100000 in
set_option maxHeartbeats 4000000 in
theorem uX8_sort_24 {z : Nat} {N : Nat} {T : zS} (X : zX D cy p s m meth c cX8_sort 4 RX8 none)  {S : zS} {x0 : Nat} {x1 : Int32} (h : lX8_sort_24 N S x0 x1 = some T) : zWt D cy A p l e { frames := 0, cells := 0, slots := 0, locals := 0 } s m args below meth c z 0 0 0 0 (zQ D cy A T z none) S 4 24 [(0, .ref x0), (1, .int x1)] [] := by
  unfold lX8_sort_24 at h
  refine zloop_ind (P := fun y => zWt D cy A p l e { frames := 0, cells := 0, slots := 0, locals := 0 } s m args below meth c z 0 0 0 0 (zQ D cy A T z none) y.1 4 24 [(0, .ref y.2.1), (1, .int y.2.2)] []) ?_ N (S, x0, x1) h
  intro K hK y hy
  obtain ⟨S, x0, x1⟩ := y
  exact wX8_sort_24 X (fun S x0 x1 hq => hK (S, x0, x1) hq) hy
set_option maxRecDepth 100000 in
set_option maxHeartbeats 4000000 in
theorem wX8_sort_2 {z : Nat} {N : Nat} {T : zS} (X : zX D cy p s m meth c cX8_sort 4 RX8 none) {K2 : zS × Nat × Int32 → Option (zS)} (hK2 : ∀ (S : zS) (x0 : Nat) (x1 : Int32), K2 (S, x0, x1) = some T → zWt D cy A p l e { frames := 0, cells := 0, slots := 0, locals := 0 } s m args below meth c z 0 0 0 0 (zQ D cy A T z none) S 4 2 [(0, .ref x0), (1, .int x1)] []) {S : zS} {x0 : Nat} {x1 : Int32} (h : fX8_sort_2 N K2 S x0 x1 = some T) : zWt D cy A p l e { frames := 0, cells := 0, slots := 0, locals := 0 } s m args below meth c z 0 0 0 0 (zQ D cy A T z none) S 4 2 [(0, .ref x0), (1, .int x1)] [] := by
  obtain ⟨hx, hb, hml, hown, hr, hlocks, hT⟩ := id X
  intro H locs ls hH hS hl
  unfold fX8_sort_2 at h
  refine lv_iload_n hx hb dX8_sort_2 rfl (lv_at hl 1 rfl) ?_
  refine lv_sipush (v := (256 : Int32)) hx hb dX8_sort_3 (by decide) ?_
  refine lv_icmp_ge (tgt := 22) hx hb dX8_sort_6 (by decide) (fun c => ?_) (fun c => ?_)
  · have h := (if_pos c).symm.trans h
    refine lv_iconst (v := (0 : Int32)) hx hb dX8_sort_22 (by decide) ?_
    refine lv_istore_n (lv' := [(1, .int (0 : Int32)), (0, .ref x0)]) hx hb dX8_sort_23 rfl hl (by decide) rfl (fun ls hl => ?_)
    exact uX8_sort_24 X h _ _ _ hH hS (lv_sub hl [1, 0] rfl)
  · have h := (if_neg c).symm.trans h
    refine lv_aload_n hx hb dX8_sort_9 rfl (lv_at hl 0 rfl) ?_
    obtain ⟨v11, ev11, h⟩ := zb_some h
    refine z_getr X flX8_53 hH ev11 dX8_sort_10 ?_
    refine lv_iload_n hx hb dX8_sort_13 rfl (lv_at hl 1 rfl) ?_
    refine lv_iconst (v := (0 : Int32)) hx hb dX8_sort_14 (by decide) ?_
    obtain ⟨S12, eS12, h⟩ := zb_some h
    refine z_iast X hH hS eS12 dX8_sort_15 (fun H locs hH hS => ?_)
    refine lv_iinc (v := (x1 + (1 : Int32))) (lv' := [(1, .int (x1 + (1 : Int32))), (0, .ref x0)]) hx hb dX8_sort_16 hl (k := 1) rfl (z_ii (by decide) _) (by decide) rfl (fun ls hl => ?_)
    refine lv_goto (tgt := 2) hx hb dX8_sort_19 (by decide) ?_
    exact hK2 _ _ _ h _ _ _ hH hS (lv_sub hl [1, 0] rfl)
set_option maxRecDepth 100000 in
set_option maxHeartbeats 4000000 in
theorem uX8_sort_2 {z : Nat} {N : Nat} {T : zS} (X : zX D cy p s m meth c cX8_sort 4 RX8 none)  {S : zS} {x0 : Nat} {x1 : Int32} (h : lX8_sort_2 N S x0 x1 = some T) : zWt D cy A p l e { frames := 0, cells := 0, slots := 0, locals := 0 } s m args below meth c z 0 0 0 0 (zQ D cy A T z none) S 4 2 [(0, .ref x0), (1, .int x1)] [] := by
  unfold lX8_sort_2 at h
  refine zloop_ind (P := fun y => zWt D cy A p l e { frames := 0, cells := 0, slots := 0, locals := 0 } s m args below meth c z 0 0 0 0 (zQ D cy A T z none) y.1 4 2 [(0, .ref y.2.1), (1, .int y.2.2)] []) ?_ N (S, x0, x1) h
  intro K hK y hy
  obtain ⟨S, x0, x1⟩ := y
  exact wX8_sort_2 X (fun S x0 x1 hq => hK (S, x0, x1) hq) hy
set_option maxRecDepth 100000 in
set_option maxHeartbeats 4000000 in
theorem wX8_sort_0 {z : Nat} {N : Nat} {T : zS} (X : zX D cy p s m meth c cX8_sort 4 RX8 none)  {S : zS} {x0 : Nat} (h : fX8_sort_0 N S x0 = some T) : zWt D cy A p l e { frames := 0, cells := 0, slots := 0, locals := 0 } s m args below meth c z 0 0 0 0 (zQ D cy A T z none) S 4 0 [(0, .ref x0)] [] := by
  obtain ⟨hx, hb, hml, hown, hr, hlocks, hT⟩ := id X
  intro H locs ls hH hS hl
  unfold fX8_sort_0 at h
  refine lv_iconst (v := (0 : Int32)) hx hb dX8_sort_0 (by decide) ?_
  refine lv_istore_n (lv' := [(1, .int (0 : Int32)), (0, .ref x0)]) hx hb dX8_sort_1 rfl hl (by decide) rfl (fun ls hl => ?_)
  exact uX8_sort_2 X h _ _ _ hH hS (lv_sub hl [1, 0] rfl)
set_option maxRecDepth 100000 in
theorem kX8_sort {N : Nat} {T : zS} {S : zS} {z : Nat} {x0 : Nat} (h : fX8_sort N S x0 = some T) : Met l yX8_sort [.code yX8_sort cX8_sort 4 none] { frames := 0, cells := 0, slots := 0, locals := 0 } (zP D cy A S z [.ref x0]) (zQ D cy A T z none) 0 0 A := by
  refine z_met (lv := [(0, .ref x0)]) (by decide) (Nat.le_of_ble_eq_true rfl) rfl ?_
  intro p e s m below meth c X H locs ls hH hS hl
  exact wX8_sort_0 X h _ _ _ hH hS (lv_sub hl [0] rfl)
set_option maxRecDepth 100000 in
set_option maxHeartbeats 4000000 in
theorem wX8_sign_38 {z : Nat} {N : Nat} {T : zS} (X : zX D cy p s m meth c cX8_sign 3 RX8 none) {K38 : zS × Nat × Int32 × Int32 → Option (zS)} (hK38 : ∀ (S : zS) (x0 : Nat) (x1 : Int32) (x2 : Int32), K38 (S, x0, x1, x2) = some T → zWt D cy A p l e { frames := 0, cells := 0, slots := 0, locals := 0 } s m args below meth c z 0 0 0 0 (zQ D cy A T z none) S 3 38 [(0, .ref x0), (1, .int x1), (2, .int x2)] []) {S : zS} {x0 : Nat} {x1 : Int32} {x2 : Int32} (h : fX8_sign_38 N K38 S x0 x1 x2 = some T) : zWt D cy A p l e { frames := 0, cells := 0, slots := 0, locals := 0 } s m args below meth c z 0 0 0 0 (zQ D cy A T z none) S 3 38 [(0, .ref x0), (1, .int x1), (2, .int x2)] [] := by
  obtain ⟨hx, hb, hml, hown, hr, hlocks, hT⟩ := id X
  intro H locs ls hH hS hl
  unfold fX8_sign_38 at h
  refine lv_iload_n hx hb dX8_sign_38 rfl (lv_at hl 2 rfl) ?_
  refine lv_iconst (v := (4 : Int32)) hx hb dX8_sign_39 (by decide) ?_
  refine lv_icmp_ge (tgt := 68) hx hb dX8_sign_40 (by decide) (fun c => ?_) (fun c => ?_)
  · have h := (if_pos c).symm.trans h
    exact z_vret X hH hS h dX8_sign_68
  · have h := (if_neg c).symm.trans h
    refine lv_aload_n hx hb dX8_sign_43 rfl (lv_at hl 0 rfl) ?_
    obtain ⟨v1, ev1, h⟩ := zb_some h
    refine z_getr X flX8_50 hH ev1 dX8_sign_44 ?_
    refine lv_iload_n hx hb dX8_sign_47 rfl (lv_at hl 2 rfl) ?_
    refine lv_iload_n hx hb dX8_sign_48 rfl (lv_at hl 1 rfl) ?_
    refine lv_bipush (v := (24 : Int32)) hx hb dX8_sign_49 (by decide) ?_
    refine lv_bipush (v := (8 : Int32)) hx hb dX8_sign_51 (by decide) ?_
    refine lv_iload_n hx hb dX8_sign_53 rfl (lv_at hl 2 rfl) ?_
    refine lv_imul hx hb dX8_sign_54 ?_
    refine lv_isub hx hb dX8_sign_55 ?_
    refine lv_ishr hx hb dX8_sign_56 ?_
    refine lv_sipush (v := (255 : Int32)) hx hb dX8_sign_57 (by decide) ?_
    refine lv_iand hx hb dX8_sign_60 ?_
    obtain ⟨S2, eS2, h⟩ := zb_some h
    refine z_iast X hH hS eS2 dX8_sign_61 (fun H locs hH hS => ?_)
    refine lv_iinc (v := (x2 + (1 : Int32))) (lv' := [(2, .int (x2 + (1 : Int32))), (0, .ref x0), (1, .int x1)]) hx hb dX8_sign_62 hl (k := 2) rfl (z_ii (by decide) _) (by decide) rfl (fun ls hl => ?_)
    refine lv_goto (tgt := 38) hx hb dX8_sign_65 (by decide) ?_
    exact hK38 _ _ _ _ h _ _ _ hH hS (lv_sub hl [1, 2, 0] rfl)
set_option maxRecDepth 100000 in
set_option maxHeartbeats 4000000 in
theorem uX8_sign_38 {z : Nat} {N : Nat} {T : zS} (X : zX D cy p s m meth c cX8_sign 3 RX8 none)  {S : zS} {x0 : Nat} {x1 : Int32} {x2 : Int32} (h : lX8_sign_38 N S x0 x1 x2 = some T) : zWt D cy A p l e { frames := 0, cells := 0, slots := 0, locals := 0 } s m args below meth c z 0 0 0 0 (zQ D cy A T z none) S 3 38 [(0, .ref x0), (1, .int x1), (2, .int x2)] [] := by
  unfold lX8_sign_38 at h
  refine zloop_ind (P := fun y => zWt D cy A p l e { frames := 0, cells := 0, slots := 0, locals := 0 } s m args below meth c z 0 0 0 0 (zQ D cy A T z none) y.1 3 38 [(0, .ref y.2.1), (1, .int y.2.2.1), (2, .int y.2.2.2)] []) ?_ N (S, x0, x1, x2) h
  intro K hK y hy
  obtain ⟨S, x0, x1, x2⟩ := y
  exact wX8_sign_38 X (fun S x0 x1 x2 hq => hK (S, x0, x1, x2) hq) hy
set_option maxRecDepth 100000 in
set_option maxHeartbeats 4000000 in
theorem wX8_sign_5 {z : Nat} {N : Nat} {T : zS} (X : zX D cy p s m meth c cX8_sign 3 RX8 none) {K5 : zS × Nat × Int32 × Int32 → Option (zS)} (hK5 : ∀ (S : zS) (x0 : Nat) (x1 : Int32) (x2 : Int32), K5 (S, x0, x1, x2) = some T → zWt D cy A p l e { frames := 0, cells := 0, slots := 0, locals := 0 } s m args below meth c z 0 0 0 0 (zQ D cy A T z none) S 3 5 [(0, .ref x0), (1, .int x1), (2, .int x2)] []) {S : zS} {x0 : Nat} {x1 : Int32} {x2 : Int32} (h : fX8_sign_5 N K5 S x0 x1 x2 = some T) : zWt D cy A p l e { frames := 0, cells := 0, slots := 0, locals := 0 } s m args below meth c z 0 0 0 0 (zQ D cy A T z none) S 3 5 [(0, .ref x0), (1, .int x1), (2, .int x2)] [] := by
  obtain ⟨hx, hb, hml, hown, hr, hlocks, hT⟩ := id X
  intro H locs ls hH hS hl
  unfold fX8_sign_5 at h
  refine lv_iload_n hx hb dX8_sign_5 rfl (lv_at hl 2 rfl) ?_
  refine lv_aload_n hx hb dX8_sign_6 rfl (lv_at hl 0 rfl) ?_
  obtain ⟨v3, ev3, h⟩ := zb_some h
  refine z_geti X flX8_133 hH ev3 dX8_sign_7 ?_
  refine lv_icmp_ge (tgt := 31) hx hb dX8_sign_10 (by decide) (fun c => ?_) (fun c => ?_)
  · have h := (if_pos c).symm.trans h
    refine lv_aload_n hx hb dX8_sign_31 rfl (lv_at hl 0 rfl) ?_
    refine lv_iconst (v := (4 : Int32)) hx hb dX8_sign_32 (by decide) ?_
    obtain ⟨S4, eS4, h⟩ := zb_some h
    refine z_puti X flX8_133 fpX8_18 hH hS eS4 dX8_sign_33 (fun H locs hH hS => ?_)
    refine lv_iconst (v := (0 : Int32)) hx hb dX8_sign_36 (by decide) ?_
    refine lv_istore_n (lv' := [(2, .int (0 : Int32)), (0, .ref x0), (1, .int x1)]) hx hb dX8_sign_37 rfl hl (by decide) rfl (fun ls hl => ?_)
    exact uX8_sign_38 X h _ _ _ hH hS (lv_sub hl [1, 2, 0] rfl)
  · have h := (if_neg c).symm.trans h
    refine lv_iload_n hx hb dX8_sign_13 rfl (lv_at hl 1 rfl) ?_
    refine lv_aload_n hx hb dX8_sign_14 rfl (lv_at hl 0 rfl) ?_
    obtain ⟨v5, ev5, h⟩ := zb_some h
    refine z_getr X flX8_50 hH ev5 dX8_sign_15 ?_
    refine lv_iload_n hx hb dX8_sign_18 rfl (lv_at hl 2 rfl) ?_
    obtain ⟨v6, ev6, h⟩ := zb_some h
    refine z_iald X hH ev6 dX8_sign_19 ?_
    refine lv_ixor hx hb dX8_sign_20 ?_
    refine lv_ldc (v := (16777619 : Int32)) hx hb hown (X.ts _ ctX8_145) dX8_sign_21 ?_
    refine lv_imul hx hb dX8_sign_23 ?_
    refine lv_istore_n (lv' := [(1, .int ((x1 ^^^ v6) * (16777619 : Int32))), (0, .ref x0), (2, .int x2)]) hx hb dX8_sign_24 rfl hl (by decide) rfl (fun ls hl => ?_)
    refine lv_iinc (v := (x2 + (1 : Int32))) (lv' := [(2, .int (x2 + (1 : Int32))), (1, .int ((x1 ^^^ v6) * (16777619 : Int32))), (0, .ref x0)]) hx hb dX8_sign_25 hl (k := 2) rfl (z_ii (by decide) _) (by decide) rfl (fun ls hl => ?_)
    refine lv_goto (tgt := 5) hx hb dX8_sign_28 (by decide) ?_
    exact hK5 _ _ _ _ h _ _ _ hH hS (lv_sub hl [2, 1, 0] rfl)
set_option maxRecDepth 100000 in
set_option maxHeartbeats 4000000 in
theorem uX8_sign_5 {z : Nat} {N : Nat} {T : zS} (X : zX D cy p s m meth c cX8_sign 3 RX8 none)  {S : zS} {x0 : Nat} {x1 : Int32} {x2 : Int32} (h : lX8_sign_5 N S x0 x1 x2 = some T) : zWt D cy A p l e { frames := 0, cells := 0, slots := 0, locals := 0 } s m args below meth c z 0 0 0 0 (zQ D cy A T z none) S 3 5 [(0, .ref x0), (1, .int x1), (2, .int x2)] [] := by
  unfold lX8_sign_5 at h
  refine zloop_ind (P := fun y => zWt D cy A p l e { frames := 0, cells := 0, slots := 0, locals := 0 } s m args below meth c z 0 0 0 0 (zQ D cy A T z none) y.1 3 5 [(0, .ref y.2.1), (1, .int y.2.2.1), (2, .int y.2.2.2)] []) ?_ N (S, x0, x1, x2) h
  intro K hK y hy
  obtain ⟨S, x0, x1, x2⟩ := y
  exact wX8_sign_5 X (fun S x0 x1 x2 hq => hK (S, x0, x1, x2) hq) hy
set_option maxRecDepth 100000 in
set_option maxHeartbeats 4000000 in
theorem wX8_sign_0 {z : Nat} {N : Nat} {T : zS} (X : zX D cy p s m meth c cX8_sign 3 RX8 none)  {S : zS} {x0 : Nat} (h : fX8_sign_0 N S x0 = some T) : zWt D cy A p l e { frames := 0, cells := 0, slots := 0, locals := 0 } s m args below meth c z 0 0 0 0 (zQ D cy A T z none) S 3 0 [(0, .ref x0)] [] := by
  obtain ⟨hx, hb, hml, hown, hr, hlocks, hT⟩ := id X
  intro H locs ls hH hS hl
  unfold fX8_sign_0 at h
  refine lv_ldc (v := (40503 : Int32)) hx hb hown (X.ts _ ctX8_144) dX8_sign_0 ?_
  refine lv_istore_n (lv' := [(1, .int (40503 : Int32)), (0, .ref x0)]) hx hb dX8_sign_2 rfl hl (by decide) rfl (fun ls hl => ?_)
  refine lv_iconst (v := (0 : Int32)) hx hb dX8_sign_3 (by decide) ?_
  refine lv_istore_n (lv' := [(2, .int (0 : Int32)), (1, .int (40503 : Int32)), (0, .ref x0)]) hx hb dX8_sign_4 rfl hl (by decide) rfl (fun ls hl => ?_)
  exact uX8_sign_5 X h _ _ _ hH hS (lv_sub hl [2, 1, 0] rfl)
set_option maxRecDepth 100000 in
theorem kX8_sign {N : Nat} {T : zS} {S : zS} {z : Nat} {x0 : Nat} (h : fX8_sign N S x0 = some T) : Met l yX8_sign [.code yX8_sign cX8_sign 3 none] { frames := 0, cells := 0, slots := 0, locals := 0 } (zP D cy A S z [.ref x0]) (zQ D cy A T z none) 0 0 A := by
  refine z_met (lv := [(0, .ref x0)]) (by decide) (Nat.le_of_ble_eq_true rfl) rfl ?_
  intro p e s m below meth c X H locs ls hH hS hl
  exact wX8_sign_0 X h _ _ _ hH hS (lv_sub hl [0] rfl)
set_option maxRecDepth 100000 in
set_option maxHeartbeats 4000000 in
theorem wX8_make_219 {z : Nat} {N : Nat} {T : zS} (X : zX D cy p s m meth c cX8_make 5 RX8 none) {K219 : zS × Nat × Int32 × Int32 → Option (zS)} (hK219 : ∀ (S : zS) (x0 : Nat) (x3 : Int32) (x4 : Int32), K219 (S, x0, x3, x4) = some T → zWt D cy A p l e { frames := 3, cells := 0, slots := 0, locals := 72 } s m args below meth c z 0 0 0 0 (zQ D cy A T z none) S 5 219 [(0, .ref x0), (3, .int x3), (4, .int x4)] []) {S : zS} {x0 : Nat} {x3 : Int32} {x4 : Int32} (h : fX8_make_219 N K219 S x0 x3 x4 = some T) : zWt D cy A p l e { frames := 3, cells := 0, slots := 0, locals := 72 } s m args below meth c z 0 0 0 0 (zQ D cy A T z none) S 5 219 [(0, .ref x0), (3, .int x3), (4, .int x4)] [] := by
  obtain ⟨hx, hb, hml, hown, hr, hlocks, hT⟩ := id X
  intro H locs ls hH hS hl
  unfold fX8_make_219 at h
  refine lv_iload hx hb dX8_make_219 (lv_at hl 2 rfl) ?_
  refine lv_aload_n hx hb dX8_make_221 rfl (lv_at hl 0 rfl) ?_
  obtain ⟨v1, ev1, h⟩ := zb_some h
  refine z_geti X flX8_133 hH ev1 dX8_make_222 ?_
  refine lv_icmp_ge (tgt := 254) hx hb dX8_make_225 (by decide) (fun c => ?_) (fun c => ?_)
  · have h := (if_pos c).symm.trans h
    exact z_vret X hH hS h dX8_make_254
  · have h := (if_neg c).symm.trans h
    refine lv_aload_n hx hb dX8_make_228 rfl (lv_at hl 0 rfl) ?_
    obtain ⟨v2, ev2, h⟩ := zb_some h
    refine z_getr X flX8_47 hH ev2 dX8_make_229 ?_
    refine lv_sipush (v := (200 : Int32)) hx hb dX8_make_232 (by decide) ?_
    refine lv_iload_n hx hb dX8_make_235 rfl (lv_at hl 1 rfl) ?_
    refine lv_imul hx hb dX8_make_236 ?_
    refine lv_iload hx hb dX8_make_237 (lv_at hl 2 rfl) ?_
    refine lv_iadd hx hb dX8_make_239 ?_
    refine lv_aload_n hx hb dX8_make_240 rfl (lv_at hl 0 rfl) ?_
    obtain ⟨v3, ev3, h⟩ := zb_some h
    refine z_getr X flX8_50 hH ev3 dX8_make_241 ?_
    refine lv_iload hx hb dX8_make_244 (lv_at hl 2 rfl) ?_
    obtain ⟨v4, ev4, h⟩ := zb_some h
    refine z_iald X hH ev4 dX8_make_246 ?_
    obtain ⟨S5, eS5, h⟩ := zb_some h
    refine z_iast X hH hS eS5 dX8_make_247 (fun H locs hH hS => ?_)
    refine lv_iinc (v := (x4 + (1 : Int32))) (lv' := [(4, .int (x4 + (1 : Int32))), (0, .ref x0), (3, .int x3)]) hx hb dX8_make_248 hl (k := 2) rfl (z_ii (by decide) _) (by decide) rfl (fun ls hl => ?_)
    refine lv_goto (tgt := 219) hx hb dX8_make_251 (by decide) ?_
    exact hK219 _ _ _ _ h _ _ _ hH hS (lv_sub hl [1, 2, 0] rfl)
set_option maxRecDepth 100000 in
set_option maxHeartbeats 4000000 in
theorem uX8_make_219 {z : Nat} {N : Nat} {T : zS} (X : zX D cy p s m meth c cX8_make 5 RX8 none)  {S : zS} {x0 : Nat} {x3 : Int32} {x4 : Int32} (h : lX8_make_219 N S x0 x3 x4 = some T) : zWt D cy A p l e { frames := 3, cells := 0, slots := 0, locals := 72 } s m args below meth c z 0 0 0 0 (zQ D cy A T z none) S 5 219 [(0, .ref x0), (3, .int x3), (4, .int x4)] [] := by
  unfold lX8_make_219 at h
  refine zloop_ind (P := fun y => zWt D cy A p l e { frames := 3, cells := 0, slots := 0, locals := 72 } s m args below meth c z 0 0 0 0 (zQ D cy A T z none) y.1 5 219 [(0, .ref y.2.1), (3, .int y.2.2.1), (4, .int y.2.2.2)] []) ?_ N (S, x0, x3, x4) h
  intro K hK y hy
  obtain ⟨S, x0, x3, x4⟩ := y
  exact wX8_make_219 X (fun S x0 x3 x4 hq => hK (S, x0, x3, x4) hq) hy
set_option maxRecDepth 100000 in
set_option maxHeartbeats 4000000 in
theorem wX8_make_195 {z : Nat} {N : Nat} {T : zS} (X : zX D cy p s m meth c cX8_make 5 RX8 none)  {S : zS} {x0 : Nat} {x3 : Int32} (h : fX8_make_195 N S x0 x3 = some T) : zWt D cy A p l e { frames := 3, cells := 0, slots := 0, locals := 72 } s m args below meth c z 0 0 0 0 (zQ D cy A T z none) S 5 195 [(0, .ref x0), (3, .int x3)] [] := by
  obtain ⟨hx, hb, hml, hown, hr, hlocks, hT⟩ := id X
  intro H locs ls hH hS hl
  unfold fX8_make_195 at h
  refine lv_aload_n hx hb dX8_make_195 rfl (lv_at hl 0 rfl) ?_
  obtain ⟨v6, ev6, h⟩ := zb_some h
  refine z_geti X flX8_133 hH ev6 dX8_make_196 ?_
  refine lv_sipush (v := (200 : Int32)) hx hb dX8_make_199 (by decide) ?_
  refine lv_icmp_le (tgt := 206) hx hb dX8_make_202 (by decide) (fun c => ?_) (fun c => ?_)
  · have h := (if_pos c).symm.trans h
    refine lv_aload_n hx hb dX8_make_206 rfl (lv_at hl 0 rfl) ?_
    obtain ⟨v7, ev7, h⟩ := zb_some h
    refine z_getr X flX8_44 hH ev7 dX8_make_207 ?_
    refine lv_iload_n hx hb dX8_make_210 rfl (lv_at hl 1 rfl) ?_
    refine lv_aload_n hx hb dX8_make_211 rfl (lv_at hl 0 rfl) ?_
    obtain ⟨v8, ev8, h⟩ := zb_some h
    refine z_geti X flX8_133 hH ev8 dX8_make_212 ?_
    obtain ⟨S9, eS9, h⟩ := zb_some h
    refine z_iast X hH hS eS9 dX8_make_215 (fun H locs hH hS => ?_)
    refine lv_iconst (v := (0 : Int32)) hx hb dX8_make_216 (by decide) ?_
    refine lv_istore (lv' := [(4, .int (0 : Int32)), (0, .ref x0), (3, .int x3)]) hx hb dX8_make_217 hl (by decide) rfl (fun ls hl => ?_)
    exact uX8_make_219 X h _ _ _ hH hS (lv_sub hl [1, 2, 0] rfl)
  · have h := (if_neg c).symm.trans h
    exact z_vret X hH hS h dX8_make_205
set_option maxRecDepth 100000 in
set_option maxHeartbeats 4000000 in
theorem wX8_make_150 {z : Nat} {N : Nat} {T : zS} (X : zX D cy p s m meth c cX8_make 5 RX8 none) {K150 : zS × Nat × Int32 × Int32 × Int32 → Option (zS)} (hK150 : ∀ (S : zS) (x0 : Nat) (x2 : Int32) (x3 : Int32) (x4 : Int32), K150 (S, x0, x2, x3, x4) = some T → zWt D cy A p l e { frames := 3, cells := 0, slots := 0, locals := 72 } s m args below meth c z 0 0 0 0 (zQ D cy A T z none) S 5 150 [(0, .ref x0), (2, .int x2), (3, .int x3), (4, .int x4)] []) {S : zS} {x0 : Nat} {x2 : Int32} {x3 : Int32} {x4 : Int32} (h : fX8_make_150 N K150 S x0 x2 x3 x4 = some T) : zWt D cy A p l e { frames := 3, cells := 0, slots := 0, locals := 72 } s m args below meth c z 0 0 0 0 (zQ D cy A T z none) S 5 150 [(0, .ref x0), (2, .int x2), (3, .int x3), (4, .int x4)] [] := by
  obtain ⟨hx, hb, hml, hown, hr, hlocks, hT⟩ := id X
  intro H locs ls hH hS hl
  unfold fX8_make_150 at h
  refine lv_iload hx hb dX8_make_150 (lv_at hl 3 rfl) ?_
  refine lv_aload_n hx hb dX8_make_152 rfl (lv_at hl 0 rfl) ?_
  obtain ⟨v10, ev10, h⟩ := zb_some h
  refine z_geti X flX8_133 hH ev10 dX8_make_153 ?_
  refine lv_icmp_ge (tgt := 181) hx hb dX8_make_156 (by decide) (fun c => ?_) (fun c => ?_)
  · have h := (if_pos c).symm.trans h
    refine lv_goto (tgt := 195) hx hb dX8_make_181 (by decide) ?_
    exact wX8_make_195 X h _ _ _ hH hS (lv_sub hl [0, 2] rfl)
  · have h := (if_neg c).symm.trans h
    refine lv_aload_n hx hb dX8_make_159 rfl (lv_at hl 0 rfl) ?_
    obtain ⟨v11, ev11, h⟩ := zb_some h
    refine z_getr X flX8_50 hH ev11 dX8_make_160 ?_
    refine lv_iload hx hb dX8_make_163 (lv_at hl 3 rfl) ?_
    refine lv_dup2_11 hx hb dX8_make_165 rfl rfl ?_
    obtain ⟨v12, ev12, h⟩ := zb_some h
    refine z_iald X hH ev12 dX8_make_166 ?_
    refine lv_aload_n hx hb dX8_make_167 rfl (lv_at hl 0 rfl) ?_
    obtain ⟨v13, ev13, h⟩ := zb_some h
    refine z_getr X flX8_29 hH ev13 dX8_make_168 ?_
    refine lv_iload_n hx hb dX8_make_171 rfl (lv_at hl 1 rfl) ?_
    obtain ⟨v14, ev14, h⟩ := zb_some h
    refine z_iald X hH ev14 dX8_make_172 ?_
    refine lv_ixor hx hb dX8_make_173 ?_
    obtain ⟨S15, eS15, h⟩ := zb_some h
    refine z_iast X hH hS eS15 dX8_make_174 (fun H locs hH hS => ?_)
    refine lv_iinc (v := (x4 + (1 : Int32))) (lv' := [(4, .int (x4 + (1 : Int32))), (0, .ref x0), (2, .int x2), (3, .int x3)]) hx hb dX8_make_175 hl (k := 3) rfl (z_ii (by decide) _) (by decide) rfl (fun ls hl => ?_)
    refine lv_goto (tgt := 150) hx hb dX8_make_178 (by decide) ?_
    exact hK150 _ _ _ _ _ h _ _ _ hH hS (lv_sub hl [1, 2, 3, 0] rfl)
set_option maxRecDepth 100000 in
set_option maxHeartbeats 4000000 in
theorem uX8_make_150 {z : Nat} {N : Nat} {T : zS} (X : zX D cy p s m meth c cX8_make 5 RX8 none)  {S : zS} {x0 : Nat} {x2 : Int32} {x3 : Int32} {x4 : Int32} (h : lX8_make_150 N S x0 x2 x3 x4 = some T) : zWt D cy A p l e { frames := 3, cells := 0, slots := 0, locals := 72 } s m args below meth c z 0 0 0 0 (zQ D cy A T z none) S 5 150 [(0, .ref x0), (2, .int x2), (3, .int x3), (4, .int x4)] [] := by
  unfold lX8_make_150 at h
  refine zloop_ind (P := fun y => zWt D cy A p l e { frames := 3, cells := 0, slots := 0, locals := 72 } s m args below meth c z 0 0 0 0 (zQ D cy A T z none) y.1 5 150 [(0, .ref y.2.1), (2, .int y.2.2.1), (3, .int y.2.2.2.1), (4, .int y.2.2.2.2)] []) ?_ N (S, x0, x2, x3, x4) h
  intro K hK y hy
  obtain ⟨S, x0, x2, x3, x4⟩ := y
  exact wX8_make_150 X (fun S x0 x2 x3 x4 hq => hK (S, x0, x2, x3, x4) hq) hy
set_option maxRecDepth 100000 in
set_option maxHeartbeats 4000000 in
theorem wX8_make_121 {z : Nat} {N : Nat} {T : zS} (X : zX D cy p s m meth c cX8_make 5 RX8 none)  {S : zS} {x0 : Nat} {x3 : Int32} (h : fX8_make_121 N S x0 x3 = some T) : zWt D cy A p l e { frames := 3, cells := 0, slots := 0, locals := 72 } s m args below meth c z 0 0 0 0 (zQ D cy A T z none) S 5 121 [(0, .ref x0), (3, .int x3)] [] := by
  obtain ⟨hx, hb, hml, hown, hr, hlocks, hT⟩ := id X
  intro H locs ls hH hS hl
  unfold fX8_make_121 at h
  refine lv_aload_n hx hb dX8_make_121 rfl (lv_at hl 0 rfl) ?_
  refine lv_dup hx hb dX8_make_122 rfl ?_
  obtain ⟨v16, ev16, h⟩ := zb_some h
  refine z_geti X flX8_133 hH ev16 dX8_make_123 ?_
  refine lv_iconst (v := (1 : Int32)) hx hb dX8_make_126 (by decide) ?_
  refine lv_iadd hx hb dX8_make_127 ?_
  obtain ⟨S17, eS17, h⟩ := zb_some h
  refine z_puti X flX8_133 fpX8_18 hH hS eS17 dX8_make_128 (fun H locs hH hS => ?_)
  refine lv_goto (tgt := 195) hx hb dX8_make_131 (by decide) ?_
  exact wX8_make_195 X h _ _ _ hH hS (lv_sub hl [0, 1] rfl)
set_option maxRecDepth 100000 in
set_option maxHeartbeats 4000000 in
theorem wX8_make_88 {z : Nat} {N : Nat} {T : zS} (X : zX D cy p s m meth c cX8_make 5 RX8 none)  {S : zS} {x0 : Nat} {x3 : Int32} (h : fX8_make_88 N S x0 x3 = some T) : zWt D cy A p l e { frames := 3, cells := 0, slots := 0, locals := 72 } s m args below meth c z 0 0 0 0 (zQ D cy A T z none) S 5 88 [(0, .ref x0), (3, .int x3)] [] := by
  obtain ⟨hx, hb, hml, hown, hr, hlocks, hT⟩ := id X
  intro H locs ls hH hS hl
  unfold fX8_make_88 at h
  refine lv_goto (tgt := 195) hx hb dX8_make_88 (by decide) ?_
  exact wX8_make_195 X h _ _ _ hH hS (lv_sub hl [0, 1] rfl)
set_option maxRecDepth 100000 in
set_option maxHeartbeats 4000000 in
theorem wX8_make_0 {z : Nat} {N : Nat} {T : zS} (X : zX D cy p s m meth c cX8_make 5 RX8 none)  {S : zS} {x0 : Nat} {x1 : Int32} {x2 : Int32} (h : fX8_make_0 N S x0 x1 x2 = some T) : zWt D cy A p l e { frames := 3, cells := 0, slots := 0, locals := 72 } s m args below meth c z 0 0 0 0 (zQ D cy A T z none) S 5 0 [(0, .ref x0), (1, .int x1), (2, .int x2)] [] := by
  obtain ⟨hx, hb, hml, hown, hr, hlocks, hT⟩ := id X
  intro H locs ls hH hS hl
  unfold fX8_make_0 at h
  refine lv_bipush (v := (24 : Int32)) hx hb dX8_make_0 (by decide) ?_
  refine lv_iload_n hx hb dX8_make_2 rfl (lv_at hl 1 rfl) ?_
  refine lv_imul hx hb dX8_make_3 ?_
  refine lv_iload_n hx hb dX8_make_4 rfl (lv_at hl 2 rfl) ?_
  refine lv_iadd hx hb dX8_make_5 ?_
  refine lv_istore_n (lv' := [(3, .int (((24 : Int32) * x1) + x2)), (0, .ref x0), (1, .int x1), (2, .int x2)]) hx hb dX8_make_6 rfl hl (by decide) rfl (fun ls hl => ?_)
  refine lv_aload_n hx hb dX8_make_7 rfl (lv_at hl 1 rfl) ?_
  obtain ⟨v18, ev18, h⟩ := zb_some h
  refine z_getr X flX8_44 hH ev18 dX8_make_8 ?_
  refine lv_iload_n hx hb dX8_make_11 rfl (lv_at hl 0 rfl) ?_
  refine lv_iconst (v := (-1 : Int32)) hx hb dX8_make_12 (by decide) ?_
  obtain ⟨S19, eS19, h⟩ := zb_some h
  refine z_iast X hH hS eS19 dX8_make_13 (fun H locs hH hS => ?_)
  refine lv_aload_n hx hb dX8_make_14 rfl (lv_at hl 1 rfl) ?_
  refine lv_iload_n hx hb dX8_make_15 rfl (lv_at hl 2 rfl) ?_
  refine lv_iload_n hx hb dX8_make_16 rfl (lv_at hl 3 rfl) ?_
  obtain ⟨u20, eu20, h⟩ := zb_some h
  obtain ⟨v22, S21, eS21, h⟩ := zb2_some h
  refine z_cV (As := [.int x1, .int x2]) X hl hH hS mlX8_146 eu20 (kX8_isReady eS21) rfl rfl (Nat.le_of_ble_eq_true rfl) ⟨rfl, rfl, Nat.le_of_ble_eq_true rfl, Nat.le_of_ble_eq_true rfl⟩ ⟨Nat.le_refl _, Nat.le_refl _⟩ dX8_make_17 (fun H locs hH hS => ?_)
  refine lv_if_ne (tgt := 24) hx hb dX8_make_20 (by decide) (fun c => ?_) (fun c => ?_)
  · have h := (if_neg c).symm.trans h
    refine lv_aload_n hx hb dX8_make_24 rfl (lv_at hl 1 rfl) ?_
    refine lv_iload_n hx hb dX8_make_25 rfl (lv_at hl 2 rfl) ?_
    refine lv_iload_n hx hb dX8_make_26 rfl (lv_at hl 3 rfl) ?_
    obtain ⟨u23, eu23, h⟩ := zb_some h
    obtain ⟨S24, eS24, h⟩ := zb_some h
    refine z_cV (As := [.int x1, .int x2]) X hl hH hS mlX8_150 eu23 (kX8_join eS24) rfl rfl (Nat.le_of_ble_eq_true rfl) ⟨rfl, rfl, Nat.le_of_ble_eq_true rfl, Nat.le_of_ble_eq_true rfl⟩ ⟨Nat.le_refl _, Nat.le_refl _⟩ dX8_make_27 (fun H locs hH hS => ?_)
    refine lv_aload_n hx hb dX8_make_30 rfl (lv_at hl 1 rfl) ?_
    obtain ⟨v25, ev25, h⟩ := zb_some h
    refine z_geti X flX8_133 hH ev25 dX8_make_31 ?_
    refine lv_sipush (v := (200 : Int32)) hx hb dX8_make_34 (by decide) ?_
    refine lv_icmp_le (tgt := 41) hx hb dX8_make_37 (by decide) (fun c => ?_) (fun c => ?_)
    · have h := (if_pos c).symm.trans h
      refine lv_aload_n hx hb dX8_make_41 rfl (lv_at hl 1 rfl) ?_
      obtain ⟨v26, ev26, h⟩ := zb_some h
      refine z_getr X flX8_26 hH ev26 dX8_make_42 ?_
      refine lv_iload_n hx hb dX8_make_45 rfl (lv_at hl 3 rfl) ?_
      obtain ⟨v27, ev27, h⟩ := zb_some h
      refine z_iald X hH ev27 dX8_make_46 ?_
      by_cases c0 : v27 = (0 : Int32)
      · have h := (if_pos c0).symm.trans h
        refine lv_tableIn (tgt := 88) hx hb dX8_make_47 (by rw [c0]; decide) (by rw [c0]; decide) (by rw [c0]; rfl) (by decide) ?_
        exact wX8_make_88 X h _ _ _ hH hS (lv_sub hl [1, 0] rfl)
      have h := (if_neg c0).symm.trans h
      by_cases c1 : v27 = (1 : Int32)
      · have h := (if_pos c1).symm.trans h
        refine lv_tableIn (tgt := 91) hx hb dX8_make_47 (by rw [c1]; decide) (by rw [c1]; decide) (by rw [c1]; rfl) (by decide) ?_
        refine lv_aload_n hx hb dX8_make_91 rfl (lv_at hl 1 rfl) ?_
        obtain ⟨v28, ev28, h⟩ := zb_some h
        refine z_geti X flX8_133 hH ev28 dX8_make_92 ?_
        refine lv_sipush (v := (200 : Int32)) hx hb dX8_make_95 (by decide) ?_
        refine lv_icmp_ge (tgt := 121) hx hb dX8_make_98 (by decide) (fun c => ?_) (fun c => ?_)
        · have h := (if_pos c).symm.trans h
          exact wX8_make_121 X h _ _ _ hH hS (lv_sub hl [1, 0] rfl)
        · have h := (if_neg c).symm.trans h
          refine lv_aload_n hx hb dX8_make_101 rfl (lv_at hl 1 rfl) ?_
          obtain ⟨v29, ev29, h⟩ := zb_some h
          refine z_getr X flX8_50 hH ev29 dX8_make_102 ?_
          refine lv_aload_n hx hb dX8_make_105 rfl (lv_at hl 1 rfl) ?_
          obtain ⟨v30, ev30, h⟩ := zb_some h
          refine z_geti X flX8_133 hH ev30 dX8_make_106 ?_
          refine lv_aload_n hx hb dX8_make_109 rfl (lv_at hl 1 rfl) ?_
          obtain ⟨v31, ev31, h⟩ := zb_some h
          refine z_getr X flX8_41 hH ev31 dX8_make_110 ?_
          refine lv_aload_n hx hb dX8_make_113 rfl (lv_at hl 1 rfl) ?_
          obtain ⟨v32, ev32, h⟩ := zb_some h
          refine z_getr X flX8_32 hH ev32 dX8_make_114 ?_
          refine lv_iload_n hx hb dX8_make_117 rfl (lv_at hl 3 rfl) ?_
          obtain ⟨v33, ev33, h⟩ := zb_some h
          refine z_iald X hH ev33 dX8_make_118 ?_
          obtain ⟨v34, ev34, h⟩ := zb_some h
          refine z_iald X hH ev34 dX8_make_119 ?_
          obtain ⟨S35, eS35, h⟩ := zb_some h
          refine z_iast X hH hS eS35 dX8_make_120 (fun H locs hH hS => ?_)
          exact wX8_make_121 X h _ _ _ hH hS (lv_sub hl [1, 0] rfl)
      have h := (if_neg c1).symm.trans h
      by_cases c2 : v27 = (2 : Int32)
      · have h := (if_pos c2).symm.trans h
        refine lv_tableIn (tgt := 88) hx hb dX8_make_47 (by rw [c2]; decide) (by rw [c2]; decide) (by rw [c2]; rfl) (by decide) ?_
        exact wX8_make_88 X h _ _ _ hH hS (lv_sub hl [1, 0] rfl)
      have h := (if_neg c2).symm.trans h
      by_cases c3 : v27 = (3 : Int32)
      · have h := (if_pos c3).symm.trans h
        refine lv_tableIn (tgt := 134) hx hb dX8_make_47 (by rw [c3]; decide) (by rw [c3]; decide) (by rw [c3]; rfl) (by decide) ?_
        refine lv_aload_n hx hb dX8_make_134 rfl (lv_at hl 1 rfl) ?_
        refine lv_aload_n hx hb dX8_make_135 rfl (lv_at hl 1 rfl) ?_
        obtain ⟨v36, ev36, h⟩ := zb_some h
        refine z_getr X flX8_29 hH ev36 dX8_make_136 ?_
        refine lv_iload_n hx hb dX8_make_139 rfl (lv_at hl 3 rfl) ?_
        obtain ⟨v37, ev37, h⟩ := zb_some h
        refine z_iald X hH ev37 dX8_make_140 ?_
        obtain ⟨u38, eu38, h⟩ := zb_some h
        obtain ⟨S39, eS39, h⟩ := zb_some h
        refine z_cV (As := [.int v37]) X hl hH hS mlX8_153 eu38 (kX8_strip eS39) rfl rfl (Nat.le_of_ble_eq_true rfl) ⟨rfl, rfl, Nat.le_of_ble_eq_true rfl, Nat.le_of_ble_eq_true rfl⟩ ⟨Nat.le_refl _, Nat.le_refl _⟩ dX8_make_141 (fun H locs hH hS => ?_)
        refine lv_goto (tgt := 195) hx hb dX8_make_144 (by decide) ?_
        exact wX8_make_195 X h _ _ _ hH hS (lv_sub hl [1, 0] rfl)
      have h := (if_neg c3).symm.trans h
      by_cases c4 : v27 = (4 : Int32)
      · have h := (if_pos c4).symm.trans h
        refine lv_tableIn (tgt := 147) hx hb dX8_make_47 (by rw [c4]; decide) (by rw [c4]; decide) (by rw [c4]; rfl) (by decide) ?_
        refine lv_iconst (v := (0 : Int32)) hx hb dX8_make_147 (by decide) ?_
        refine lv_istore (lv' := [(4, .int (0 : Int32)), (3, .int (((24 : Int32) * x1) + x2)), (0, .ref x0), (1, .int x1), (2, .int x2)]) hx hb dX8_make_148 hl (by decide) rfl (fun ls hl => ?_)
        exact uX8_make_150 X h _ _ _ hH hS (lv_sub hl [2, 4, 1, 0] rfl)
      have h := (if_neg c4).symm.trans h
      by_cases c5 : v27 = (5 : Int32)
      · have h := (if_pos c5).symm.trans h
        refine lv_tableIn (tgt := 88) hx hb dX8_make_47 (by rw [c5]; decide) (by rw [c5]; decide) (by rw [c5]; rfl) (by decide) ?_
        exact wX8_make_88 X h _ _ _ hH hS (lv_sub hl [1, 0] rfl)
      have h := (if_neg c5).symm.trans h
      by_cases c6 : v27 = (6 : Int32)
      · have h := (if_pos c6).symm.trans h
        refine lv_tableIn (tgt := 184) hx hb dX8_make_47 (by rw [c6]; decide) (by rw [c6]; decide) (by rw [c6]; rfl) (by decide) ?_
        refine lv_aload_n hx hb dX8_make_184 rfl (lv_at hl 1 rfl) ?_
        obtain ⟨u40, eu40, h⟩ := zb_some h
        obtain ⟨S41, eS41, h⟩ := zb_some h
        refine z_cV (As := []) X hl hH hS mlX8_157 eu40 (kX8_sort eS41) rfl rfl (Nat.le_of_ble_eq_true rfl) ⟨rfl, rfl, Nat.le_of_ble_eq_true rfl, Nat.le_of_ble_eq_true rfl⟩ ⟨Nat.le_refl _, Nat.le_refl _⟩ dX8_make_185 (fun H locs hH hS => ?_)
        refine lv_goto (tgt := 195) hx hb dX8_make_188 (by decide) ?_
        exact wX8_make_195 X h _ _ _ hH hS (lv_sub hl [1, 0] rfl)
      have h := (if_neg c6).symm.trans h
      refine lv_tableOut (tgt := 191) hx hb dX8_make_47 (by have := lv_neT c0 (a := 0) (by decide); have := lv_neT c1 (a := 1) (by decide); have := lv_neT c2 (a := 2) (by decide); have := lv_neT c3 (a := 3) (by decide); have := lv_neT c4 (a := 4) (by decide); have := lv_neT c5 (a := 5) (by decide); have := lv_neT c6 (a := 6) (by decide); omega) (by decide) ?_
      refine lv_aload_n hx hb dX8_make_191 rfl (lv_at hl 1 rfl) ?_
      obtain ⟨u42, eu42, h⟩ := zb_some h
      obtain ⟨S43, eS43, h⟩ := zb_some h
      refine z_cV (As := []) X hl hH hS mlX8_160 eu42 (kX8_sign eS43) rfl rfl (Nat.le_of_ble_eq_true rfl) ⟨rfl, rfl, Nat.le_of_ble_eq_true rfl, Nat.le_of_ble_eq_true rfl⟩ ⟨Nat.le_refl _, Nat.le_refl _⟩ dX8_make_192 (fun H locs hH hS => ?_)
      exact wX8_make_195 X h _ _ _ hH hS (lv_sub hl [1, 0] rfl)
    · have h := (if_neg c).symm.trans h
      exact z_vret X hH hS h dX8_make_40
  · have h := (if_pos c).symm.trans h
    exact z_vret X hH hS h dX8_make_23
set_option maxRecDepth 100000 in
theorem kX8_make {N : Nat} {T : zS} {S : zS} {z : Nat} {x0 : Nat} {x1 : Int32} {x2 : Int32} (h : fX8_make N S x0 x1 x2 = some T) : Met l yX8_make [.code yX8_make cX8_make 5 none] { frames := 3, cells := 0, slots := 0, locals := 72 } (zP D cy A S z [.ref x0, .int x1, .int x2]) (zQ D cy A T z none) 0 0 A := by
  refine z_met (lv := [(0, .ref x0), (1, .int x1), (2, .int x2)]) (by decide) (Nat.le_of_ble_eq_true rfl) rfl ?_
  intro p e s m below meth c X H locs ls hH hS hl
  exact wX8_make_0 X h _ _ _ hH hS (lv_sub hl [0, 1, 2] rfl)
set_option maxRecDepth 100000 in
set_option maxHeartbeats 4000000 in
theorem wX8_build_2 {z : Nat} {N : Nat} {T : zS} (X : zX D cy p s m meth c cX8_build 4 RX8 none) {K2 : zS × Nat × Int32 × Int32 × Int32 → Option (zS)} (hK2 : ∀ (S : zS) (x0 : Nat) (x1 : Int32) (x2 : Int32) (x3 : Int32), K2 (S, x0, x1, x2, x3) = some T → zWt D cy A p l e { frames := 4, cells := 0, slots := 0, locals := 96 } s m args below meth c z 0 0 0 0 (zQ D cy A T z none) S 4 2 [(0, .ref x0), (1, .int x1), (2, .int x2), (3, .int x3)] []) {S : zS} {x0 : Nat} {x1 : Int32} {x2 : Int32} {x3 : Int32} (h : fX8_build_2 N K2 S x0 x1 x2 x3 = some T) : zWt D cy A p l e { frames := 4, cells := 0, slots := 0, locals := 96 } s m args below meth c z 0 0 0 0 (zQ D cy A T z none) S 4 2 [(0, .ref x0), (1, .int x1), (2, .int x2), (3, .int x3)] [] := by
  obtain ⟨hx, hb, hml, hown, hr, hlocks, hT⟩ := id X
  intro H locs ls hH hS hl
  unfold fX8_build_2 at h
  refine lv_iload_n hx hb dX8_build_2 rfl (lv_at hl 3 rfl) ?_
  refine lv_iload_n hx hb dX8_build_3 rfl (lv_at hl 2 rfl) ?_
  refine lv_icmp_gt (tgt := 19) hx hb dX8_build_4 (by decide) (fun c => ?_) (fun c => ?_)
  · have h := (if_pos c).symm.trans h
    exact z_vret X hH hS h dX8_build_19
  · have h := (if_neg c).symm.trans h
    refine lv_aload_n hx hb dX8_build_7 rfl (lv_at hl 0 rfl) ?_
    refine lv_iload_n hx hb dX8_build_8 rfl (lv_at hl 1 rfl) ?_
    refine lv_iload_n hx hb dX8_build_9 rfl (lv_at hl 3 rfl) ?_
    obtain ⟨u1, eu1, h⟩ := zb_some h
    obtain ⟨S2, eS2, h⟩ := zb_some h
    refine z_cV (As := [.int x1, .int x3]) X hl hH hS mlX8_163 eu1 (kX8_make eS2) rfl rfl (Nat.le_of_ble_eq_true rfl) ⟨rfl, rfl, Nat.le_of_ble_eq_true rfl, Nat.le_of_ble_eq_true rfl⟩ ⟨Nat.le_refl _, Nat.le_refl _⟩ dX8_build_10 (fun H locs hH hS => ?_)
    refine lv_iinc (v := (x3 + (1 : Int32))) (lv' := [(3, .int (x3 + (1 : Int32))), (0, .ref x0), (1, .int x1), (2, .int x2)]) hx hb dX8_build_13 hl (k := 3) rfl (z_ii (by decide) _) (by decide) rfl (fun ls hl => ?_)
    refine lv_goto (tgt := 2) hx hb dX8_build_16 (by decide) ?_
    exact hK2 _ _ _ _ _ h _ _ _ hH hS (lv_sub hl [1, 2, 3, 0] rfl)
set_option maxRecDepth 100000 in
set_option maxHeartbeats 4000000 in
theorem uX8_build_2 {z : Nat} {N : Nat} {T : zS} (X : zX D cy p s m meth c cX8_build 4 RX8 none)  {S : zS} {x0 : Nat} {x1 : Int32} {x2 : Int32} {x3 : Int32} (h : lX8_build_2 N S x0 x1 x2 x3 = some T) : zWt D cy A p l e { frames := 4, cells := 0, slots := 0, locals := 96 } s m args below meth c z 0 0 0 0 (zQ D cy A T z none) S 4 2 [(0, .ref x0), (1, .int x1), (2, .int x2), (3, .int x3)] [] := by
  unfold lX8_build_2 at h
  refine zloop_ind (P := fun y => zWt D cy A p l e { frames := 4, cells := 0, slots := 0, locals := 96 } s m args below meth c z 0 0 0 0 (zQ D cy A T z none) y.1 4 2 [(0, .ref y.2.1), (1, .int y.2.2.1), (2, .int y.2.2.2.1), (3, .int y.2.2.2.2)] []) ?_ N (S, x0, x1, x2, x3) h
  intro K hK y hy
  obtain ⟨S, x0, x1, x2, x3⟩ := y
  exact wX8_build_2 X (fun S x0 x1 x2 x3 hq => hK (S, x0, x1, x2, x3) hq) hy
set_option maxRecDepth 100000 in
set_option maxHeartbeats 4000000 in
theorem wX8_build_0 {z : Nat} {N : Nat} {T : zS} (X : zX D cy p s m meth c cX8_build 4 RX8 none)  {S : zS} {x0 : Nat} {x1 : Int32} {x2 : Int32} (h : fX8_build_0 N S x0 x1 x2 = some T) : zWt D cy A p l e { frames := 4, cells := 0, slots := 0, locals := 96 } s m args below meth c z 0 0 0 0 (zQ D cy A T z none) S 4 0 [(0, .ref x0), (1, .int x1), (2, .int x2)] [] := by
  obtain ⟨hx, hb, hml, hown, hr, hlocks, hT⟩ := id X
  intro H locs ls hH hS hl
  unfold fX8_build_0 at h
  refine lv_iconst (v := (0 : Int32)) hx hb dX8_build_0 (by decide) ?_
  refine lv_istore_n (lv' := [(3, .int (0 : Int32)), (0, .ref x0), (1, .int x1), (2, .int x2)]) hx hb dX8_build_1 rfl hl (by decide) rfl (fun ls hl => ?_)
  exact uX8_build_2 X h _ _ _ hH hS (lv_sub hl [1, 2, 3, 0] rfl)
set_option maxRecDepth 100000 in
theorem kX8_build {N : Nat} {T : zS} {S : zS} {z : Nat} {x0 : Nat} {x1 : Int32} {x2 : Int32} (h : fX8_build N S x0 x1 x2 = some T) : Met l yX8_build [.code yX8_build cX8_build 4 none] { frames := 4, cells := 0, slots := 0, locals := 96 } (zP D cy A S z [.ref x0, .int x1, .int x2]) (zQ D cy A T z none) 0 0 A := by
  refine z_met (lv := [(0, .ref x0), (1, .int x1), (2, .int x2)]) (by decide) (Nat.le_of_ble_eq_true rfl) rfl ?_
  intro p e s m below meth c X H locs ls hH hS hl
  exact wX8_build_0 X h _ _ _ hH hS (lv_sub hl [0, 1, 2] rfl)
set_option maxRecDepth 100000 in
set_option maxHeartbeats 4000000 in
theorem wX8_both_0 {z : Nat} {N : Nat} {T : zS} (X : zX D cy p s m meth c cX8_both 4 RX8 none)  {S : zS} {x0 : Nat} {x1 : Int32} {x2 : Int32} {x3 : Int32} (h : fX8_both_0 N S x0 x1 x2 x3 = some T) : zWt D cy A p l e { frames := 5, cells := 0, slots := 0, locals := 119 } s m args below meth c z 0 0 0 0 (zQ D cy A T z none) S 4 0 [(0, .ref x0), (1, .int x1), (2, .int x2), (3, .int x3)] [] := by
  obtain ⟨hx, hb, hml, hown, hr, hlocks, hT⟩ := id X
  intro H locs ls hH hS hl
  unfold fX8_both_0 at h
  refine lv_aload_n hx hb dX8_both_0 rfl (lv_at hl 0 rfl) ?_
  refine lv_iload_n hx hb dX8_both_1 rfl (lv_at hl 1 rfl) ?_
  obtain ⟨u1, eu1, h⟩ := zb_some h
  obtain ⟨S2, eS2, h⟩ := zb_some h
  refine z_cV (As := [.int x1]) X hl hH hS mlX8_166 eu1 (kX8_take eS2) rfl rfl (Nat.le_of_ble_eq_true rfl) ⟨rfl, rfl, Nat.le_of_ble_eq_true rfl, Nat.le_of_ble_eq_true rfl⟩ ⟨Nat.le_refl _, Nat.le_refl _⟩ dX8_both_2 (fun H locs hH hS => ?_)
  refine lv_aload_n hx hb dX8_both_5 rfl (lv_at hl 0 rfl) ?_
  refine lv_iconst (v := (0 : Int32)) hx hb dX8_both_6 (by decide) ?_
  refine lv_iload_n hx hb dX8_both_7 rfl (lv_at hl 3 rfl) ?_
  obtain ⟨u3, eu3, h⟩ := zb_some h
  obtain ⟨S4, eS4, h⟩ := zb_some h
  refine z_cV (As := [.int (0 : Int32), .int x3]) X hl hH hS mlX8_169 eu3 (kX8_build eS4) rfl rfl (Nat.le_of_ble_eq_true rfl) ⟨rfl, rfl, Nat.le_of_ble_eq_true rfl, Nat.le_of_ble_eq_true rfl⟩ ⟨Nat.le_refl _, Nat.le_refl _⟩ dX8_both_8 (fun H locs hH hS => ?_)
  refine lv_aload_n hx hb dX8_both_11 rfl (lv_at hl 0 rfl) ?_
  refine lv_iload_n hx hb dX8_both_12 rfl (lv_at hl 2 rfl) ?_
  obtain ⟨u5, eu5, h⟩ := zb_some h
  obtain ⟨S6, eS6, h⟩ := zb_some h
  refine z_cV (As := [.int x2]) X hl hH hS mlX8_166 eu5 (kX8_take eS6) rfl rfl (Nat.le_of_ble_eq_true rfl) ⟨rfl, rfl, Nat.le_of_ble_eq_true rfl, Nat.le_of_ble_eq_true rfl⟩ ⟨Nat.le_refl _, Nat.le_refl _⟩ dX8_both_13 (fun H locs hH hS => ?_)
  refine lv_aload_n hx hb dX8_both_16 rfl (lv_at hl 0 rfl) ?_
  refine lv_iconst (v := (1 : Int32)) hx hb dX8_both_17 (by decide) ?_
  refine lv_iload_n hx hb dX8_both_18 rfl (lv_at hl 3 rfl) ?_
  obtain ⟨u7, eu7, h⟩ := zb_some h
  obtain ⟨S8, eS8, h⟩ := zb_some h
  refine z_cV (As := [.int (1 : Int32), .int x3]) X hl hH hS mlX8_169 eu7 (kX8_build eS8) rfl rfl (Nat.le_of_ble_eq_true rfl) ⟨rfl, rfl, Nat.le_of_ble_eq_true rfl, Nat.le_of_ble_eq_true rfl⟩ ⟨Nat.le_refl _, Nat.le_refl _⟩ dX8_both_19 (fun H locs hH hS => ?_)
  exact z_vret X hH hS h dX8_both_22
set_option maxRecDepth 100000 in
theorem kX8_both {N : Nat} {T : zS} {S : zS} {z : Nat} {x0 : Nat} {x1 : Int32} {x2 : Int32} {x3 : Int32} (h : fX8_both N S x0 x1 x2 x3 = some T) : Met l yX8_both [.code yX8_both cX8_both 4 none] { frames := 5, cells := 0, slots := 0, locals := 119 } (zP D cy A S z [.ref x0, .int x1, .int x2, .int x3]) (zQ D cy A T z none) 0 0 A := by
  refine z_met (lv := [(0, .ref x0), (1, .int x1), (2, .int x2), (3, .int x3)]) (by decide) (Nat.le_of_ble_eq_true rfl) rfl ?_
  intro p e s m below meth c X H locs ls hH hS hl
  exact wX8_both_0 X h _ _ _ hH hS (lv_sub hl [0, 1, 2, 3] rfl)
set_option maxRecDepth 100000 in
set_option maxHeartbeats 4000000 in
theorem wX8_areAlike_22 {z : Nat} {N : Nat} {r : Int32} {T : zS} (X : zX D cy p s m meth c cX8_areAlike 3 RX8 (some .boolean)) {K22 : zS × Nat × Int32 × Int32 → Option (Int32 × zS)} (hK22 : ∀ (S : zS) (x0 : Nat) (x1 : Int32) (x2 : Int32), K22 (S, x0, x1, x2) = some (r, T) → zWt D cy A p l e { frames := 0, cells := 0, slots := 0, locals := 0 } s m args below meth c z 0 0 0 0 (zQ D cy A T z (some (.int r))) S 3 22 [(0, .ref x0), (1, .int x1), (2, .int x2)] []) {S : zS} {x0 : Nat} {x1 : Int32} {x2 : Int32} (h : fX8_areAlike_22 N K22 S x0 x1 x2 = some (r, T)) : zWt D cy A p l e { frames := 0, cells := 0, slots := 0, locals := 0 } s m args below meth c z 0 0 0 0 (zQ D cy A T z (some (.int r))) S 3 22 [(0, .ref x0), (1, .int x1), (2, .int x2)] [] := by
  obtain ⟨hx, hb, hml, hown, hr, hlocks, hT⟩ := id X
  intro H locs ls hH hS hl
  unfold fX8_areAlike_22 at h
  refine lv_iload_n hx hb dX8_areAlike_22 rfl (lv_at hl 2 rfl) ?_
  refine lv_aload_n hx hb dX8_areAlike_23 rfl (lv_at hl 0 rfl) ?_
  obtain ⟨v1, ev1, h⟩ := zb_some h
  refine z_getr X flX8_44 hH ev1 dX8_areAlike_24 ?_
  refine lv_iload_n hx hb dX8_areAlike_27 rfl (lv_at hl 1 rfl) ?_
  obtain ⟨v2, ev2, h⟩ := zb_some h
  refine z_iald X hH ev2 dX8_areAlike_28 ?_
  refine lv_icmp_ge (tgt := 70) hx hb dX8_areAlike_29 (by decide) (fun c => ?_) (fun c => ?_)
  · have h := (if_pos c).symm.trans h
    refine lv_iconst (v := (1 : Int32)) hx hb dX8_areAlike_70 (by decide) ?_
    exact z_zret X hH hS h dX8_areAlike_71
  · have h := (if_neg c).symm.trans h
    refine lv_aload_n hx hb dX8_areAlike_32 rfl (lv_at hl 0 rfl) ?_
    obtain ⟨v3, ev3, h⟩ := zb_some h
    refine z_getr X flX8_47 hH ev3 dX8_areAlike_33 ?_
    refine lv_sipush (v := (200 : Int32)) hx hb dX8_areAlike_36 (by decide) ?_
    refine lv_iload_n hx hb dX8_areAlike_39 rfl (lv_at hl 1 rfl) ?_
    refine lv_imul hx hb dX8_areAlike_40 ?_
    refine lv_iload_n hx hb dX8_areAlike_41 rfl (lv_at hl 2 rfl) ?_
    refine lv_iadd hx hb dX8_areAlike_42 ?_
    obtain ⟨v4, ev4, h⟩ := zb_some h
    refine z_iald X hH ev4 dX8_areAlike_43 ?_
    refine lv_aload_n hx hb dX8_areAlike_44 rfl (lv_at hl 0 rfl) ?_
    obtain ⟨v5, ev5, h⟩ := zb_some h
    refine z_getr X flX8_47 hH ev5 dX8_areAlike_45 ?_
    refine lv_sipush (v := (200 : Int32)) hx hb dX8_areAlike_48 (by decide) ?_
    refine lv_bipush (v := (24 : Int32)) hx hb dX8_areAlike_51 (by decide) ?_
    refine lv_iload_n hx hb dX8_areAlike_53 rfl (lv_at hl 1 rfl) ?_
    refine lv_iadd hx hb dX8_areAlike_54 ?_
    refine lv_imul hx hb dX8_areAlike_55 ?_
    refine lv_iload_n hx hb dX8_areAlike_56 rfl (lv_at hl 2 rfl) ?_
    refine lv_iadd hx hb dX8_areAlike_57 ?_
    obtain ⟨v6, ev6, h⟩ := zb_some h
    refine z_iald X hH ev6 dX8_areAlike_58 ?_
    refine lv_icmp_eq (tgt := 64) hx hb dX8_areAlike_59 (by decide) (fun c => ?_) (fun c => ?_)
    · have h := (if_pos c).symm.trans h
      refine lv_iinc (v := (x2 + (1 : Int32))) (lv' := [(2, .int (x2 + (1 : Int32))), (0, .ref x0), (1, .int x1)]) hx hb dX8_areAlike_64 hl (k := 2) rfl (z_ii (by decide) _) (by decide) rfl (fun ls hl => ?_)
      refine lv_goto (tgt := 22) hx hb dX8_areAlike_67 (by decide) ?_
      exact hK22 _ _ _ _ h _ _ _ hH hS (lv_sub hl [1, 2, 0] rfl)
    · have h := (if_neg c).symm.trans h
      refine lv_iconst (v := (0 : Int32)) hx hb dX8_areAlike_62 (by decide) ?_
      exact z_zret X hH hS h dX8_areAlike_63
set_option maxRecDepth 100000 in
set_option maxHeartbeats 4000000 in
theorem uX8_areAlike_22 {z : Nat} {N : Nat} {r : Int32} {T : zS} (X : zX D cy p s m meth c cX8_areAlike 3 RX8 (some .boolean))  {S : zS} {x0 : Nat} {x1 : Int32} {x2 : Int32} (h : lX8_areAlike_22 N S x0 x1 x2 = some (r, T)) : zWt D cy A p l e { frames := 0, cells := 0, slots := 0, locals := 0 } s m args below meth c z 0 0 0 0 (zQ D cy A T z (some (.int r))) S 3 22 [(0, .ref x0), (1, .int x1), (2, .int x2)] [] := by
  unfold lX8_areAlike_22 at h
  refine zloop_ind (P := fun y => zWt D cy A p l e { frames := 0, cells := 0, slots := 0, locals := 0 } s m args below meth c z 0 0 0 0 (zQ D cy A T z (some (.int r))) y.1 3 22 [(0, .ref y.2.1), (1, .int y.2.2.1), (2, .int y.2.2.2)] []) ?_ N (S, x0, x1, x2) h
  intro K hK y hy
  obtain ⟨S, x0, x1, x2⟩ := y
  exact wX8_areAlike_22 X (fun S x0 x1 x2 hq => hK (S, x0, x1, x2) hq) hy
set_option maxRecDepth 100000 in
set_option maxHeartbeats 4000000 in
theorem wX8_areAlike_0 {z : Nat} {N : Nat} {r : Int32} {T : zS} (X : zX D cy p s m meth c cX8_areAlike 3 RX8 (some .boolean))  {S : zS} {x0 : Nat} {x1 : Int32} (h : fX8_areAlike_0 N S x0 x1 = some (r, T)) : zWt D cy A p l e { frames := 0, cells := 0, slots := 0, locals := 0 } s m args below meth c z 0 0 0 0 (zQ D cy A T z (some (.int r))) S 3 0 [(0, .ref x0), (1, .int x1)] [] := by
  obtain ⟨hx, hb, hml, hown, hr, hlocks, hT⟩ := id X
  intro H locs ls hH hS hl
  unfold fX8_areAlike_0 at h
  refine lv_aload_n hx hb dX8_areAlike_0 rfl (lv_at hl 0 rfl) ?_
  obtain ⟨v7, ev7, h⟩ := zb_some h
  refine z_getr X flX8_44 hH ev7 dX8_areAlike_1 ?_
  refine lv_iload_n hx hb dX8_areAlike_4 rfl (lv_at hl 1 rfl) ?_
  obtain ⟨v8, ev8, h⟩ := zb_some h
  refine z_iald X hH ev8 dX8_areAlike_5 ?_
  refine lv_aload_n hx hb dX8_areAlike_6 rfl (lv_at hl 0 rfl) ?_
  obtain ⟨v9, ev9, h⟩ := zb_some h
  refine z_getr X flX8_44 hH ev9 dX8_areAlike_7 ?_
  refine lv_bipush (v := (24 : Int32)) hx hb dX8_areAlike_10 (by decide) ?_
  refine lv_iload_n hx hb dX8_areAlike_12 rfl (lv_at hl 1 rfl) ?_
  refine lv_iadd hx hb dX8_areAlike_13 ?_
  obtain ⟨v10, ev10, h⟩ := zb_some h
  refine z_iald X hH ev10 dX8_areAlike_14 ?_
  refine lv_icmp_eq (tgt := 20) hx hb dX8_areAlike_15 (by decide) (fun c => ?_) (fun c => ?_)
  · have h := (if_pos c).symm.trans h
    refine lv_iconst (v := (0 : Int32)) hx hb dX8_areAlike_20 (by decide) ?_
    refine lv_istore_n (lv' := [(2, .int (0 : Int32)), (0, .ref x0), (1, .int x1)]) hx hb dX8_areAlike_21 rfl hl (by decide) rfl (fun ls hl => ?_)
    exact uX8_areAlike_22 X h _ _ _ hH hS (lv_sub hl [1, 2, 0] rfl)
  · have h := (if_neg c).symm.trans h
    refine lv_iconst (v := (0 : Int32)) hx hb dX8_areAlike_18 (by decide) ?_
    exact z_zret X hH hS h dX8_areAlike_19
set_option maxRecDepth 100000 in
theorem kX8_areAlike {N : Nat} {r : Int32} {T : zS} {S : zS} {z : Nat} {x0 : Nat} {x1 : Int32} (h : fX8_areAlike N S x0 x1 = some (r, T)) : Met l yX8_areAlike [.code yX8_areAlike cX8_areAlike 3 (some .boolean)] { frames := 0, cells := 0, slots := 0, locals := 0 } (zP D cy A S z [.ref x0, .int x1]) (zQ D cy A T z (some (.int r))) 0 0 A := by
  refine z_met (lv := [(0, .ref x0), (1, .int x1)]) (by decide) (Nat.le_of_ble_eq_true rfl) rfl ?_
  intro p e s m below meth c X H locs ls hH hS hl
  exact wX8_areAlike_0 X h _ _ _ hH hS (lv_sub hl [0, 1] rfl)
set_option maxRecDepth 100000 in
set_option maxHeartbeats 4000000 in
theorem wX8_made_49 {z : Nat} {N : Nat} {r : Int32} {T : zS} (X : zX D cy p s m meth c cX8_made 3 RX8 (some .int))  {S : zS} {y0 : Int32} (h : fX8_made_49 N S y0 = some (r, T)) : zWt D cy A p l e { frames := 5, cells := 0, slots := 0, locals := 119 } s m args below meth c z 0 0 0 0 (zQ D cy A T z (some (.int r))) S 3 49 [] [.int y0] := by
  obtain ⟨hx, hb, hml, hown, hr, hlocks, hT⟩ := id X
  intro H locs ls hH hS hl
  unfold fX8_made_49 at h
  exact z_iret X hH hS h dX8_made_49
set_option maxRecDepth 100000 in
set_option maxHeartbeats 4000000 in
theorem wX8_made_15 {z : Nat} {N : Nat} {r : Int32} {T : zS} (X : zX D cy p s m meth c cX8_made 3 RX8 (some .int))  {S : zS} (h : fX8_made_15 N S = some (r, T)) : zWt D cy A p l e { frames := 5, cells := 0, slots := 0, locals := 119 } s m args below meth c z 0 0 0 0 (zQ D cy A T z (some (.int r))) S 3 15 [] [] := by
  obtain ⟨hx, hb, hml, hown, hr, hlocks, hT⟩ := id X
  intro H locs ls hH hS hl
  unfold fX8_made_15 at h
  refine lv_iconst (v := (-1 : Int32)) hx hb dX8_made_15 (by decide) ?_
  exact z_iret X hH hS h dX8_made_16
set_option maxRecDepth 100000 in
set_option maxHeartbeats 4000000 in
theorem wX8_made_0 {z : Nat} {N : Nat} {r : Int32} {T : zS} (X : zX D cy p s m meth c cX8_made 3 RX8 (some .int))  {S : zS} {x0 : Nat} {x1 : Int32} {x2 : Int32} (h : fX8_made_0 N S x0 x1 x2 = some (r, T)) : zWt D cy A p l e { frames := 5, cells := 0, slots := 0, locals := 119 } s m args below meth c z 0 0 0 0 (zQ D cy A T z (some (.int r))) S 3 0 [(0, .ref x0), (1, .int x1), (2, .int x2)] [] := by
  obtain ⟨hx, hb, hml, hown, hr, hlocks, hT⟩ := id X
  intro H locs ls hH hS hl
  unfold fX8_made_0 at h
  refine lv_iload_n hx hb dX8_made_0 rfl (lv_at hl 1 rfl) ?_
  obtain ⟨v2, S1, eS1, h⟩ := zb2_some h
  refine z_cS (As := [.int x1]) X hl hH hS mlX8_120 (kX8_isRoom eS1) rfl rfl (Nat.le_of_ble_eq_true rfl) ⟨rfl, rfl, Nat.le_of_ble_eq_true rfl, Nat.le_of_ble_eq_true rfl⟩ ⟨Nat.le_refl _, Nat.le_refl _⟩ dX8_made_1 (fun H locs hH hS => ?_)
  refine lv_if_eq (tgt := 15) hx hb dX8_made_4 (by decide) (fun c => ?_) (fun c => ?_)
  · have h := (if_pos c).symm.trans h
    exact wX8_made_15 X h _ _ _ hH hS (lv_sub hl [] rfl)
  · have h := (if_neg c).symm.trans h
    refine lv_aload_n hx hb dX8_made_7 rfl (lv_at hl 0 rfl) ?_
    refine lv_iload_n hx hb dX8_made_8 rfl (lv_at hl 2 rfl) ?_
    obtain ⟨u3, eu3, h⟩ := zb_some h
    obtain ⟨v5, S4, eS4, h⟩ := zb2_some h
    refine z_cV (As := [.int x2]) X hl hH hS mlX8_126 eu3 (kX8_isStep eS4) rfl rfl (Nat.le_of_ble_eq_true rfl) ⟨rfl, rfl, Nat.le_of_ble_eq_true rfl, Nat.le_of_ble_eq_true rfl⟩ ⟨Nat.le_refl _, Nat.le_refl _⟩ dX8_made_9 (fun H locs hH hS => ?_)
    refine lv_if_ne (tgt := 17) hx hb dX8_made_12 (by decide) (fun c => ?_) (fun c => ?_)
    · have h := (if_neg c).symm.trans h
      refine lv_aload_n hx hb dX8_made_17 rfl (lv_at hl 0 rfl) ?_
      refine lv_iload_n hx hb dX8_made_18 rfl (lv_at hl 1 rfl) ?_
      obtain ⟨u6, eu6, h⟩ := zb_some h
      obtain ⟨S7, eS7, h⟩ := zb_some h
      refine z_cV (As := [.int x1]) X hl hH hS mlX8_166 eu6 (kX8_take eS7) rfl rfl (Nat.le_of_ble_eq_true rfl) ⟨rfl, rfl, Nat.le_of_ble_eq_true rfl, Nat.le_of_ble_eq_true rfl⟩ ⟨Nat.le_refl _, Nat.le_refl _⟩ dX8_made_19 (fun H locs hH hS => ?_)
      refine lv_aload_n hx hb dX8_made_22 rfl (lv_at hl 0 rfl) ?_
      refine lv_iconst (v := (0 : Int32)) hx hb dX8_made_23 (by decide) ?_
      refine lv_iload_n hx hb dX8_made_24 rfl (lv_at hl 2 rfl) ?_
      obtain ⟨u8, eu8, h⟩ := zb_some h
      obtain ⟨S9, eS9, h⟩ := zb_some h
      refine z_cV (As := [.int (0 : Int32), .int x2]) X hl hH hS mlX8_169 eu8 (kX8_build eS9) rfl rfl (Nat.le_of_ble_eq_true rfl) ⟨rfl, rfl, Nat.le_of_ble_eq_true rfl, Nat.le_of_ble_eq_true rfl⟩ ⟨Nat.le_refl _, Nat.le_refl _⟩ dX8_made_25 (fun H locs hH hS => ?_)
      refine lv_aload_n hx hb dX8_made_28 rfl (lv_at hl 0 rfl) ?_
      obtain ⟨v10, ev10, h⟩ := zb_some h
      refine z_getr X flX8_44 hH ev10 dX8_made_29 ?_
      refine lv_iload_n hx hb dX8_made_32 rfl (lv_at hl 2 rfl) ?_
      obtain ⟨v11, ev11, h⟩ := zb_some h
      refine z_iald X hH ev11 dX8_made_33 ?_
      refine lv_iconst (v := (-1 : Int32)) hx hb dX8_made_34 (by decide) ?_
      refine lv_icmp_ne (tgt := 43) hx hb dX8_made_35 (by decide) (fun c => ?_) (fun c => ?_)
      · have h := (if_neg c).symm.trans h
        refine lv_aload_n hx hb dX8_made_43 rfl (lv_at hl 0 rfl) ?_
        obtain ⟨v12, ev12, h⟩ := zb_some h
        refine z_getr X flX8_44 hH ev12 dX8_made_44 ?_
        refine lv_iload_n hx hb dX8_made_47 rfl (lv_at hl 2 rfl) ?_
        obtain ⟨v13, ev13, h⟩ := zb_some h
        refine z_iald X hH ev13 dX8_made_48 ?_
        exact wX8_made_49 X h _ _ _ hH hS (lv_sub hl [] rfl)
      · have h := (if_pos c).symm.trans h
        refine lv_bipush (v := (-2 : Int32)) hx hb dX8_made_38 (by decide) ?_
        refine lv_goto (tgt := 49) hx hb dX8_made_40 (by decide) ?_
        exact wX8_made_49 X h _ _ _ hH hS (lv_sub hl [] rfl)
    · have h := (if_pos c).symm.trans h
      exact wX8_made_15 X h _ _ _ hH hS (lv_sub hl [] rfl)
set_option maxRecDepth 100000 in
theorem kX8_made {N : Nat} {r : Int32} {T : zS} {S : zS} {z : Nat} {x0 : Nat} {x1 : Int32} {x2 : Int32} (h : fX8_made N S x0 x1 x2 = some (r, T)) : Met l yX8_made [.code yX8_made cX8_made 3 (some .int)] { frames := 5, cells := 0, slots := 0, locals := 119 } (zP D cy A S z [.ref x0, .int x1, .int x2]) (zQ D cy A T z (some (.int r))) 0 0 A := by
  refine z_met (lv := [(0, .ref x0), (1, .int x1), (2, .int x2)]) (by decide) (Nat.le_of_ble_eq_true rfl) rfl ?_
  intro p e s m below meth c X H locs ls hH hS hl
  exact wX8_made_0 X h _ _ _ hH hS (lv_sub hl [0, 1, 2] rfl)
set_option maxRecDepth 100000 in
set_option maxHeartbeats 4000000 in
theorem wX8_at_78 {z : Nat} {N : Nat} {r : Int32} {T : zS} (X : zX D cy p s m meth c cX8_at 4 RX8 (some .int))  {S : zS} {y0 : Int32} (h : fX8_at_78 N S y0 = some (r, T)) : zWt D cy A p l e { frames := 5, cells := 0, slots := 0, locals := 119 } s m args below meth c z 0 0 0 0 (zQ D cy A T z (some (.int r))) S 4 78 [] [.int y0] := by
  obtain ⟨hx, hb, hml, hown, hr, hlocks, hT⟩ := id X
  intro H locs ls hH hS hl
  unfold fX8_at_78 at h
  exact z_iret X hH hS h dX8_at_78
set_option maxRecDepth 100000 in
set_option maxHeartbeats 4000000 in
theorem wX8_at_26 {z : Nat} {N : Nat} {r : Int32} {T : zS} (X : zX D cy p s m meth c cX8_at 4 RX8 (some .int))  {S : zS} (h : fX8_at_26 N S = some (r, T)) : zWt D cy A p l e { frames := 5, cells := 0, slots := 0, locals := 119 } s m args below meth c z 0 0 0 0 (zQ D cy A T z (some (.int r))) S 4 26 [] [] := by
  obtain ⟨hx, hb, hml, hown, hr, hlocks, hT⟩ := id X
  intro H locs ls hH hS hl
  unfold fX8_at_26 at h
  refine lv_iconst (v := (-1 : Int32)) hx hb dX8_at_26 (by decide) ?_
  exact z_iret X hH hS h dX8_at_27
set_option maxRecDepth 100000 in
set_option maxHeartbeats 4000000 in
theorem wX8_at_0 {z : Nat} {N : Nat} {r : Int32} {T : zS} (X : zX D cy p s m meth c cX8_at 4 RX8 (some .int))  {S : zS} {x0 : Nat} {x1 : Int32} {x2 : Int32} {x3 : Int32} (h : fX8_at_0 N S x0 x1 x2 x3 = some (r, T)) : zWt D cy A p l e { frames := 5, cells := 0, slots := 0, locals := 119 } s m args below meth c z 0 0 0 0 (zQ D cy A T z (some (.int r))) S 4 0 [(0, .ref x0), (1, .int x1), (2, .int x2), (3, .int x3)] [] := by
  obtain ⟨hx, hb, hml, hown, hr, hlocks, hT⟩ := id X
  intro H locs ls hH hS hl
  unfold fX8_at_0 at h
  refine lv_iload_n hx hb dX8_at_0 rfl (lv_at hl 1 rfl) ?_
  obtain ⟨v2, S1, eS1, h⟩ := zb2_some h
  refine z_cS (As := [.int x1]) X hl hH hS mlX8_120 (kX8_isRoom eS1) rfl rfl (Nat.le_of_ble_eq_true rfl) ⟨rfl, rfl, Nat.le_of_ble_eq_true rfl, Nat.le_of_ble_eq_true rfl⟩ ⟨Nat.le_refl _, Nat.le_refl _⟩ dX8_at_1 (fun H locs hH hS => ?_)
  refine lv_if_eq (tgt := 26) hx hb dX8_at_4 (by decide) (fun c => ?_) (fun c => ?_)
  · have h := (if_pos c).symm.trans h
    exact wX8_at_26 X h _ _ _ hH hS (lv_sub hl [] rfl)
  · have h := (if_neg c).symm.trans h
    refine lv_aload_n hx hb dX8_at_7 rfl (lv_at hl 0 rfl) ?_
    refine lv_iload_n hx hb dX8_at_8 rfl (lv_at hl 2 rfl) ?_
    obtain ⟨u3, eu3, h⟩ := zb_some h
    obtain ⟨v5, S4, eS4, h⟩ := zb2_some h
    refine z_cV (As := [.int x2]) X hl hH hS mlX8_126 eu3 (kX8_isStep eS4) rfl rfl (Nat.le_of_ble_eq_true rfl) ⟨rfl, rfl, Nat.le_of_ble_eq_true rfl, Nat.le_of_ble_eq_true rfl⟩ ⟨Nat.le_refl _, Nat.le_refl _⟩ dX8_at_9 (fun H locs hH hS => ?_)
    refine lv_if_eq (tgt := 26) hx hb dX8_at_12 (by decide) (fun c => ?_) (fun c => ?_)
    · have h := (if_pos c).symm.trans h
      exact wX8_at_26 X h _ _ _ hH hS (lv_sub hl [] rfl)
    · have h := (if_neg c).symm.trans h
      refine lv_iload_n hx hb dX8_at_15 rfl (lv_at hl 3 rfl) ?_
      refine lv_iconst (v := (0 : Int32)) hx hb dX8_at_16 (by decide) ?_
      refine lv_sipush (v := (199 : Int32)) hx hb dX8_at_17 (by decide) ?_
      obtain ⟨v7, S6, eS6, h⟩ := zb2_some h
      refine z_cS (As := [.int x3, .int (0 : Int32), .int (199 : Int32)]) X hl hH hS mlX8_99 (kX8_in eS6) rfl rfl (Nat.le_of_ble_eq_true rfl) ⟨rfl, rfl, Nat.le_of_ble_eq_true rfl, Nat.le_of_ble_eq_true rfl⟩ ⟨Nat.le_refl _, Nat.le_refl _⟩ dX8_at_20 (fun H locs hH hS => ?_)
      refine lv_if_ne (tgt := 28) hx hb dX8_at_23 (by decide) (fun c => ?_) (fun c => ?_)
      · have h := (if_neg c).symm.trans h
        refine lv_aload_n hx hb dX8_at_28 rfl (lv_at hl 0 rfl) ?_
        refine lv_iload_n hx hb dX8_at_29 rfl (lv_at hl 1 rfl) ?_
        obtain ⟨u8, eu8, h⟩ := zb_some h
        obtain ⟨S9, eS9, h⟩ := zb_some h
        refine z_cV (As := [.int x1]) X hl hH hS mlX8_166 eu8 (kX8_take eS9) rfl rfl (Nat.le_of_ble_eq_true rfl) ⟨rfl, rfl, Nat.le_of_ble_eq_true rfl, Nat.le_of_ble_eq_true rfl⟩ ⟨Nat.le_refl _, Nat.le_refl _⟩ dX8_at_30 (fun H locs hH hS => ?_)
        refine lv_aload_n hx hb dX8_at_33 rfl (lv_at hl 0 rfl) ?_
        refine lv_iconst (v := (0 : Int32)) hx hb dX8_at_34 (by decide) ?_
        refine lv_iload_n hx hb dX8_at_35 rfl (lv_at hl 2 rfl) ?_
        obtain ⟨u10, eu10, h⟩ := zb_some h
        obtain ⟨S11, eS11, h⟩ := zb_some h
        refine z_cV (As := [.int (0 : Int32), .int x2]) X hl hH hS mlX8_169 eu10 (kX8_build eS11) rfl rfl (Nat.le_of_ble_eq_true rfl) ⟨rfl, rfl, Nat.le_of_ble_eq_true rfl, Nat.le_of_ble_eq_true rfl⟩ ⟨Nat.le_refl _, Nat.le_refl _⟩ dX8_at_36 (fun H locs hH hS => ?_)
        refine lv_aload_n hx hb dX8_at_39 rfl (lv_at hl 0 rfl) ?_
        obtain ⟨v12, ev12, h⟩ := zb_some h
        refine z_getr X flX8_44 hH ev12 dX8_at_40 ?_
        refine lv_iload_n hx hb dX8_at_43 rfl (lv_at hl 2 rfl) ?_
        obtain ⟨v13, ev13, h⟩ := zb_some h
        refine z_iald X hH ev13 dX8_at_44 ?_
        refine lv_iconst (v := (-1 : Int32)) hx hb dX8_at_45 (by decide) ?_
        refine lv_icmp_ne (tgt := 52) hx hb dX8_at_46 (by decide) (fun c => ?_) (fun c => ?_)
        · have h := (if_neg c).symm.trans h
          refine lv_iload_n hx hb dX8_at_52 rfl (lv_at hl 3 rfl) ?_
          refine lv_aload_n hx hb dX8_at_53 rfl (lv_at hl 0 rfl) ?_
          obtain ⟨v14, ev14, h⟩ := zb_some h
          refine z_getr X flX8_44 hH ev14 dX8_at_54 ?_
          refine lv_iload_n hx hb dX8_at_57 rfl (lv_at hl 2 rfl) ?_
          obtain ⟨v15, ev15, h⟩ := zb_some h
          refine z_iald X hH ev15 dX8_at_58 ?_
          refine lv_icmp_ge (tgt := 77) hx hb dX8_at_59 (by decide) (fun c => ?_) (fun c => ?_)
          · have h := (if_pos c).symm.trans h
            refine lv_iconst (v := (-1 : Int32)) hx hb dX8_at_77 (by decide) ?_
            exact wX8_at_78 X h _ _ _ hH hS (lv_sub hl [] rfl)
          · have h := (if_neg c).symm.trans h
            refine lv_aload_n hx hb dX8_at_62 rfl (lv_at hl 0 rfl) ?_
            obtain ⟨v16, ev16, h⟩ := zb_some h
            refine z_getr X flX8_47 hH ev16 dX8_at_63 ?_
            refine lv_sipush (v := (200 : Int32)) hx hb dX8_at_66 (by decide) ?_
            refine lv_iload_n hx hb dX8_at_69 rfl (lv_at hl 2 rfl) ?_
            refine lv_imul hx hb dX8_at_70 ?_
            refine lv_iload_n hx hb dX8_at_71 rfl (lv_at hl 3 rfl) ?_
            refine lv_iadd hx hb dX8_at_72 ?_
            obtain ⟨v17, ev17, h⟩ := zb_some h
            refine z_iald X hH ev17 dX8_at_73 ?_
            refine lv_goto (tgt := 78) hx hb dX8_at_74 (by decide) ?_
            exact wX8_at_78 X h _ _ _ hH hS (lv_sub hl [] rfl)
        · have h := (if_pos c).symm.trans h
          refine lv_bipush (v := (-2 : Int32)) hx hb dX8_at_49 (by decide) ?_
          exact z_iret X hH hS h dX8_at_51
      · have h := (if_pos c).symm.trans h
        exact wX8_at_26 X h _ _ _ hH hS (lv_sub hl [] rfl)
set_option maxRecDepth 100000 in
theorem kX8_at {N : Nat} {r : Int32} {T : zS} {S : zS} {z : Nat} {x0 : Nat} {x1 : Int32} {x2 : Int32} {x3 : Int32} (h : fX8_at N S x0 x1 x2 x3 = some (r, T)) : Met l yX8_at [.code yX8_at cX8_at 4 (some .int)] { frames := 5, cells := 0, slots := 0, locals := 119 } (zP D cy A S z [.ref x0, .int x1, .int x2, .int x3]) (zQ D cy A T z (some (.int r))) 0 0 A := by
  refine z_met (lv := [(0, .ref x0), (1, .int x1), (2, .int x2), (3, .int x3)]) (by decide) (Nat.le_of_ble_eq_true rfl) rfl ?_
  intro p e s m below meth c X H locs ls hH hS hl
  exact wX8_at_0 X h _ _ _ hH hS (lv_sub hl [0, 1, 2, 3] rfl)
set_option maxRecDepth 100000 in
set_option maxHeartbeats 4000000 in
theorem wX8_usedBy_76 {z : Nat} {N : Nat} {r : Int32} {T : zS} (X : zX D cy p s m meth c cX8_usedBy 5 RX8 (some .int)) {K6 : zS × Nat × Int32 × Int32 → Option (Int32 × zS)} (hK6 : ∀ (S : zS) (x0 : Nat) (x2 : Int32) (x3 : Int32), K6 (S, x0, x2, x3) = some (r, T) → zWt D cy A p l e { frames := 0, cells := 0, slots := 0, locals := 0 } s m args below meth c z 0 0 0 0 (zQ D cy A T z (some (.int r))) S 5 6 [(0, .ref x0), (2, .int x2), (3, .int x3)] []) {S : zS} {x0 : Nat} {x2 : Int32} {x3 : Int32} (h : fX8_usedBy_76 N K6 S x0 x2 x3 = some (r, T)) : zWt D cy A p l e { frames := 0, cells := 0, slots := 0, locals := 0 } s m args below meth c z 0 0 0 0 (zQ D cy A T z (some (.int r))) S 5 76 [(0, .ref x0), (2, .int x2), (3, .int x3)] [] := by
  obtain ⟨hx, hb, hml, hown, hr, hlocks, hT⟩ := id X
  intro H locs ls hH hS hl
  unfold fX8_usedBy_76 at h
  refine lv_iinc (v := (x3 + (-1 : Int32))) (lv' := [(3, .int (x3 + (-1 : Int32))), (0, .ref x0), (2, .int x2)]) hx hb dX8_usedBy_76 hl (k := 2) rfl (z_ii (by decide) _) (by decide) rfl (fun ls hl => ?_)
  refine lv_goto (tgt := 6) hx hb dX8_usedBy_79 (by decide) ?_
  exact hK6 _ _ _ _ h _ _ _ hH hS (lv_sub hl [1, 2, 0] rfl)
set_option maxRecDepth 100000 in
set_option maxHeartbeats 4000000 in
theorem wX8_usedBy_70 {z : Nat} {N : Nat} {r : Int32} {T : zS} (X : zX D cy p s m meth c cX8_usedBy 5 RX8 (some .int)) {K6 : zS × Nat × Int32 × Int32 → Option (Int32 × zS)} (hK6 : ∀ (S : zS) (x0 : Nat) (x2 : Int32) (x3 : Int32), K6 (S, x0, x2, x3) = some (r, T) → zWt D cy A p l e { frames := 0, cells := 0, slots := 0, locals := 0 } s m args below meth c z 0 0 0 0 (zQ D cy A T z (some (.int r))) S 5 6 [(0, .ref x0), (2, .int x2), (3, .int x3)] []) {K24 : zS × Nat × Int32 × Int32 × Int32 → Option (Int32 × zS)} (hK24 : ∀ (S : zS) (x0 : Nat) (x2 : Int32) (x3 : Int32) (x4 : Int32), K24 (S, x0, x2, x3, x4) = some (r, T) → zWt D cy A p l e { frames := 0, cells := 0, slots := 0, locals := 0 } s m args below meth c z 0 0 0 0 (zQ D cy A T z (some (.int r))) S 5 24 [(0, .ref x0), (2, .int x2), (3, .int x3), (4, .int x4)] []) {S : zS} {x0 : Nat} {x2 : Int32} {x3 : Int32} {x4 : Int32} (h : fX8_usedBy_70 N K6 K24 S x0 x2 x3 x4 = some (r, T)) : zWt D cy A p l e { frames := 0, cells := 0, slots := 0, locals := 0 } s m args below meth c z 0 0 0 0 (zQ D cy A T z (some (.int r))) S 5 70 [(0, .ref x0), (2, .int x2), (3, .int x3), (4, .int x4)] [] := by
  obtain ⟨hx, hb, hml, hown, hr, hlocks, hT⟩ := id X
  intro H locs ls hH hS hl
  unfold fX8_usedBy_70 at h
  refine lv_iinc (v := (x4 + (1 : Int32))) (lv' := [(4, .int (x4 + (1 : Int32))), (0, .ref x0), (2, .int x2), (3, .int x3)]) hx hb dX8_usedBy_70 hl (k := 3) rfl (z_ii (by decide) _) (by decide) rfl (fun ls hl => ?_)
  refine lv_goto (tgt := 24) hx hb dX8_usedBy_73 (by decide) ?_
  exact hK24 _ _ _ _ _ h _ _ _ hH hS (lv_sub hl [1, 2, 3, 0] rfl)
set_option maxRecDepth 100000 in
set_option maxHeartbeats 4000000 in
theorem wX8_usedBy_24 {z : Nat} {N : Nat} {r : Int32} {T : zS} (X : zX D cy p s m meth c cX8_usedBy 5 RX8 (some .int)) {K6 : zS × Nat × Int32 × Int32 → Option (Int32 × zS)} (hK6 : ∀ (S : zS) (x0 : Nat) (x2 : Int32) (x3 : Int32), K6 (S, x0, x2, x3) = some (r, T) → zWt D cy A p l e { frames := 0, cells := 0, slots := 0, locals := 0 } s m args below meth c z 0 0 0 0 (zQ D cy A T z (some (.int r))) S 5 6 [(0, .ref x0), (2, .int x2), (3, .int x3)] []) {K24 : zS × Nat × Int32 × Int32 × Int32 → Option (Int32 × zS)} (hK24 : ∀ (S : zS) (x0 : Nat) (x2 : Int32) (x3 : Int32) (x4 : Int32), K24 (S, x0, x2, x3, x4) = some (r, T) → zWt D cy A p l e { frames := 0, cells := 0, slots := 0, locals := 0 } s m args below meth c z 0 0 0 0 (zQ D cy A T z (some (.int r))) S 5 24 [(0, .ref x0), (2, .int x2), (3, .int x3), (4, .int x4)] []) {S : zS} {x0 : Nat} {x2 : Int32} {x3 : Int32} {x4 : Int32} (h : fX8_usedBy_24 N K6 K24 S x0 x2 x3 x4 = some (r, T)) : zWt D cy A p l e { frames := 0, cells := 0, slots := 0, locals := 0 } s m args below meth c z 0 0 0 0 (zQ D cy A T z (some (.int r))) S 5 24 [(0, .ref x0), (2, .int x2), (3, .int x3), (4, .int x4)] [] := by
  obtain ⟨hx, hb, hml, hown, hr, hlocks, hT⟩ := id X
  intro H locs ls hH hS hl
  unfold fX8_usedBy_24 at h
  refine lv_iload hx hb dX8_usedBy_24 (lv_at hl 3 rfl) ?_
  refine lv_aload_n hx hb dX8_usedBy_26 rfl (lv_at hl 0 rfl) ?_
  obtain ⟨v1, ev1, h⟩ := zb_some h
  refine z_getr X flX8_35 hH ev1 dX8_usedBy_27 ?_
  refine lv_iload_n hx hb dX8_usedBy_30 rfl (lv_at hl 2 rfl) ?_
  obtain ⟨v2, ev2, h⟩ := zb_some h
  refine z_iald X hH ev2 dX8_usedBy_31 ?_
  refine lv_icmp_ge (tgt := 76) hx hb dX8_usedBy_32 (by decide) (fun c => ?_) (fun c => ?_)
  · have h := (if_pos c).symm.trans h
    exact wX8_usedBy_76 X hK6 h _ _ _ hH hS (lv_sub hl [0, 1, 2] rfl)
  · have h := (if_neg c).symm.trans h
    refine lv_aload_n hx hb dX8_usedBy_35 rfl (lv_at hl 0 rfl) ?_
    obtain ⟨v3, ev3, h⟩ := zb_some h
    refine z_getr X flX8_38 hH ev3 dX8_usedBy_36 ?_
    refine lv_iconst (v := (4 : Int32)) hx hb dX8_usedBy_39 (by decide) ?_
    refine lv_iload_n hx hb dX8_usedBy_40 rfl (lv_at hl 2 rfl) ?_
    refine lv_imul hx hb dX8_usedBy_41 ?_
    refine lv_iload hx hb dX8_usedBy_42 (lv_at hl 3 rfl) ?_
    refine lv_iadd hx hb dX8_usedBy_44 ?_
    obtain ⟨v4, ev4, h⟩ := zb_some h
    refine z_iald X hH ev4 dX8_usedBy_45 ?_
    refine lv_bipush (v := (100 : Int32)) hx hb dX8_usedBy_46 (by decide) ?_
    refine lv_icmp_lt (tgt := 70) hx hb dX8_usedBy_48 (by decide) (fun c => ?_) (fun c => ?_)
    · have h := (if_pos c).symm.trans h
      exact wX8_usedBy_70 X hK6 hK24 h _ _ _ hH hS (lv_sub hl [0, 1, 2, 3] rfl)
    · have h := (if_neg c).symm.trans h
      refine lv_iload_n hx hb dX8_usedBy_51 rfl (lv_at hl 1 rfl) ?_
      refine lv_iconst (v := (1 : Int32)) hx hb dX8_usedBy_52 (by decide) ?_
      refine lv_aload_n hx hb dX8_usedBy_53 rfl (lv_at hl 0 rfl) ?_
      obtain ⟨v5, ev5, h⟩ := zb_some h
      refine z_getr X flX8_38 hH ev5 dX8_usedBy_54 ?_
      refine lv_iconst (v := (4 : Int32)) hx hb dX8_usedBy_57 (by decide) ?_
      refine lv_iload_n hx hb dX8_usedBy_58 rfl (lv_at hl 2 rfl) ?_
      refine lv_imul hx hb dX8_usedBy_59 ?_
      refine lv_iload hx hb dX8_usedBy_60 (lv_at hl 3 rfl) ?_
      refine lv_iadd hx hb dX8_usedBy_62 ?_
      obtain ⟨v6, ev6, h⟩ := zb_some h
      refine z_iald X hH ev6 dX8_usedBy_63 ?_
      refine lv_bipush (v := (100 : Int32)) hx hb dX8_usedBy_64 (by decide) ?_
      refine lv_isub hx hb dX8_usedBy_66 ?_
      refine lv_ishl hx hb dX8_usedBy_67 ?_
      refine lv_ior hx hb dX8_usedBy_68 ?_
      refine lv_topi (fun v7 ev7 => ?_)
      have h := zlet_at ev7 h
      refine lv_istore_n (lv' := [(2, .int v7), (0, .ref x0), (3, .int x3), (4, .int x4)]) hx hb dX8_usedBy_69 rfl hl (by decide) rfl (fun ls hl => ?_)
      exact wX8_usedBy_70 X hK6 hK24 h _ _ _ hH hS (lv_sub hl [1, 0, 2, 3] rfl)
set_option maxRecDepth 100000 in
set_option maxHeartbeats 4000000 in
theorem uX8_usedBy_24 {z : Nat} {N : Nat} {r : Int32} {T : zS} (X : zX D cy p s m meth c cX8_usedBy 5 RX8 (some .int)) {K6 : zS × Nat × Int32 × Int32 → Option (Int32 × zS)} (hK6 : ∀ (S : zS) (x0 : Nat) (x2 : Int32) (x3 : Int32), K6 (S, x0, x2, x3) = some (r, T) → zWt D cy A p l e { frames := 0, cells := 0, slots := 0, locals := 0 } s m args below meth c z 0 0 0 0 (zQ D cy A T z (some (.int r))) S 5 6 [(0, .ref x0), (2, .int x2), (3, .int x3)] []) {S : zS} {x0 : Nat} {x2 : Int32} {x3 : Int32} {x4 : Int32} (h : lX8_usedBy_24 N K6 S x0 x2 x3 x4 = some (r, T)) : zWt D cy A p l e { frames := 0, cells := 0, slots := 0, locals := 0 } s m args below meth c z 0 0 0 0 (zQ D cy A T z (some (.int r))) S 5 24 [(0, .ref x0), (2, .int x2), (3, .int x3), (4, .int x4)] [] := by
  unfold lX8_usedBy_24 at h
  refine zloop_ind (P := fun y => zWt D cy A p l e { frames := 0, cells := 0, slots := 0, locals := 0 } s m args below meth c z 0 0 0 0 (zQ D cy A T z (some (.int r))) y.1 5 24 [(0, .ref y.2.1), (2, .int y.2.2.1), (3, .int y.2.2.2.1), (4, .int y.2.2.2.2)] []) ?_ N (S, x0, x2, x3, x4) h
  intro K hK y hy
  obtain ⟨S, x0, x2, x3, x4⟩ := y
  exact wX8_usedBy_24 X hK6 (fun S x0 x2 x3 x4 hq => hK (S, x0, x2, x3, x4) hq) hy
set_option maxRecDepth 100000 in
set_option maxHeartbeats 4000000 in
theorem wX8_usedBy_6 {z : Nat} {N : Nat} {r : Int32} {T : zS} (X : zX D cy p s m meth c cX8_usedBy 5 RX8 (some .int)) {K6 : zS × Nat × Int32 × Int32 → Option (Int32 × zS)} (hK6 : ∀ (S : zS) (x0 : Nat) (x2 : Int32) (x3 : Int32), K6 (S, x0, x2, x3) = some (r, T) → zWt D cy A p l e { frames := 0, cells := 0, slots := 0, locals := 0 } s m args below meth c z 0 0 0 0 (zQ D cy A T z (some (.int r))) S 5 6 [(0, .ref x0), (2, .int x2), (3, .int x3)] []) {S : zS} {x0 : Nat} {x2 : Int32} {x3 : Int32} (h : fX8_usedBy_6 N K6 S x0 x2 x3 = some (r, T)) : zWt D cy A p l e { frames := 0, cells := 0, slots := 0, locals := 0 } s m args below meth c z 0 0 0 0 (zQ D cy A T z (some (.int r))) S 5 6 [(0, .ref x0), (2, .int x2), (3, .int x3)] [] := by
  obtain ⟨hx, hb, hml, hown, hr, hlocks, hT⟩ := id X
  intro H locs ls hH hS hl
  unfold fX8_usedBy_6 at h
  refine lv_iload_n hx hb dX8_usedBy_6 rfl (lv_at hl 2 rfl) ?_
  refine lv_if_lt (tgt := 82) hx hb dX8_usedBy_7 (by decide) (fun c => ?_) (fun c => ?_)
  · have h := (if_pos c).symm.trans h
    refine lv_iload_n hx hb dX8_usedBy_82 rfl (lv_at hl 1 rfl) ?_
    exact z_iret X hH hS h dX8_usedBy_83
  · have h := (if_neg c).symm.trans h
    refine lv_iload_n hx hb dX8_usedBy_10 rfl (lv_at hl 1 rfl) ?_
    refine lv_iload_n hx hb dX8_usedBy_11 rfl (lv_at hl 2 rfl) ?_
    refine lv_ishr hx hb dX8_usedBy_12 ?_
    refine lv_iconst (v := (1 : Int32)) hx hb dX8_usedBy_13 (by decide) ?_
    refine lv_iand hx hb dX8_usedBy_14 ?_
    refine lv_if_ne (tgt := 21) hx hb dX8_usedBy_15 (by decide) (fun c => ?_) (fun c => ?_)
    · have h := (if_neg c).symm.trans h
      refine lv_iconst (v := (0 : Int32)) hx hb dX8_usedBy_21 (by decide) ?_
      refine lv_istore (lv' := [(4, .int (0 : Int32)), (0, .ref x0), (2, .int x2), (3, .int x3)]) hx hb dX8_usedBy_22 hl (by decide) rfl (fun ls hl => ?_)
      exact uX8_usedBy_24 X hK6 h _ _ _ hH hS (lv_sub hl [1, 2, 3, 0] rfl)
    · have h := (if_pos c).symm.trans h
      refine lv_goto (tgt := 76) hx hb dX8_usedBy_18 (by decide) ?_
      exact wX8_usedBy_76 X hK6 h _ _ _ hH hS (lv_sub hl [0, 1, 2] rfl)
set_option maxRecDepth 100000 in
set_option maxHeartbeats 4000000 in
theorem uX8_usedBy_6 {z : Nat} {N : Nat} {r : Int32} {T : zS} (X : zX D cy p s m meth c cX8_usedBy 5 RX8 (some .int))  {S : zS} {x0 : Nat} {x2 : Int32} {x3 : Int32} (h : lX8_usedBy_6 N S x0 x2 x3 = some (r, T)) : zWt D cy A p l e { frames := 0, cells := 0, slots := 0, locals := 0 } s m args below meth c z 0 0 0 0 (zQ D cy A T z (some (.int r))) S 5 6 [(0, .ref x0), (2, .int x2), (3, .int x3)] [] := by
  unfold lX8_usedBy_6 at h
  refine zloop_ind (P := fun y => zWt D cy A p l e { frames := 0, cells := 0, slots := 0, locals := 0 } s m args below meth c z 0 0 0 0 (zQ D cy A T z (some (.int r))) y.1 5 6 [(0, .ref y.2.1), (2, .int y.2.2.1), (3, .int y.2.2.2)] []) ?_ N (S, x0, x2, x3) h
  intro K hK y hy
  obtain ⟨S, x0, x2, x3⟩ := y
  exact wX8_usedBy_6 X (fun S x0 x2 x3 hq => hK (S, x0, x2, x3) hq) hy
set_option maxRecDepth 100000 in
set_option maxHeartbeats 4000000 in
theorem wX8_usedBy_0 {z : Nat} {N : Nat} {r : Int32} {T : zS} (X : zX D cy p s m meth c cX8_usedBy 5 RX8 (some .int))  {S : zS} {x0 : Nat} {x1 : Int32} (h : fX8_usedBy_0 N S x0 x1 = some (r, T)) : zWt D cy A p l e { frames := 0, cells := 0, slots := 0, locals := 0 } s m args below meth c z 0 0 0 0 (zQ D cy A T z (some (.int r))) S 5 0 [(0, .ref x0), (1, .int x1)] [] := by
  obtain ⟨hx, hb, hml, hown, hr, hlocks, hT⟩ := id X
  intro H locs ls hH hS hl
  unfold fX8_usedBy_0 at h
  refine lv_iconst (v := (1 : Int32)) hx hb dX8_usedBy_0 (by decide) ?_
  refine lv_iload_n hx hb dX8_usedBy_1 rfl (lv_at hl 1 rfl) ?_
  refine lv_ishl hx hb dX8_usedBy_2 ?_
  refine lv_istore_n (lv' := [(2, .int ((1 : Int32) <<< (x1 &&& 31))), (0, .ref x0), (1, .int x1)]) hx hb dX8_usedBy_3 rfl hl (by decide) rfl (fun ls hl => ?_)
  refine lv_iload_n hx hb dX8_usedBy_4 rfl (lv_at hl 2 rfl) ?_
  refine lv_istore_n (lv' := [(3, .int x1), (2, .int ((1 : Int32) <<< (x1 &&& 31))), (0, .ref x0), (1, .int x1)]) hx hb dX8_usedBy_5 rfl hl (by decide) rfl (fun ls hl => ?_)
  exact uX8_usedBy_6 X h _ _ _ hH hS (lv_sub hl [2, 1, 0] rfl)
set_option maxRecDepth 100000 in
theorem kX8_usedBy {N : Nat} {r : Int32} {T : zS} {S : zS} {z : Nat} {x0 : Nat} {x1 : Int32} (h : fX8_usedBy N S x0 x1 = some (r, T)) : Met l yX8_usedBy [.code yX8_usedBy cX8_usedBy 5 (some .int)] { frames := 0, cells := 0, slots := 0, locals := 0 } (zP D cy A S z [.ref x0, .int x1]) (zQ D cy A T z (some (.int r))) 0 0 A := by
  refine z_met (lv := [(0, .ref x0), (1, .int x1)]) (by decide) (Nat.le_of_ble_eq_true rfl) rfl ?_
  intro p e s m below meth c X H locs ls hH hS hl
  exact wX8_usedBy_0 X h _ _ _ hH hS (lv_sub hl [0, 1] rfl)
end
