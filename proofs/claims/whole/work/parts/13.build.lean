section
variable {D : va_G} {cy : Nat → ClassId} {A : Nat → Prop} {p : Program} {l : Launch} {e : Env} {s : State} {m : MethodId} {args : Array Value} {below : List Frame} {meth : Method} {c : Code}
set_option maxRecDepth 100000 in
set_option maxHeartbeats 4000000 in
theorem wX1_open_0 {z : Nat} {N : Nat} {T : zS} (X : zX D cy p s m meth c cX1_open 2 RX1 none)  {S : zS} {x0 : Nat} {x1 : Nat} (h : rX1_open_0 N S x0 x1 = some T) : zWt D cy A p l e { frames := 1, cells := 0, slots := 0, locals := 24 } s m args below meth c z 0 0 0 0 (zQ D cy A T z none) S 2 0 [(0, .ref x0), (1, .ref x1)] [] := by
  obtain ⟨hx, hb, hml, hown, hr, hlocks, hT⟩ := id X
  intro H locs ls hH hS hl
  unfold rX1_open_0 at h
  refine lv_aload_n hx hb dX1_open_0 rfl (lv_at hl 1 rfl) ?_
  refine lv_iconst (v := (0 : Int32)) hx hb dX1_open_1 (by decide) ?_
  refine lv_aload_n hx hb dX1_open_2 rfl (lv_at hl 0 rfl) ?_
  obtain ⟨v1, ev1, h⟩ := zb_some h
  refine z_getr X flX1_9 hH ev1 dX1_open_3 ?_
  refine lv_iconst (v := (0 : Int32)) hx hb dX1_open_6 (by decide) ?_
  refine lv_bipush (v := (8 : Int32)) hx hb dX1_open_7 (by decide) ?_
  obtain ⟨S2, eS2, h⟩ := zb_some h
  refine z_copy X hl hH hS eS2 cpX1_39 cp_n cp_s cp_i (Nat.le_of_ble_eq_true rfl) (Nat.le_of_ble_eq_true rfl) dX1_open_9 (fun H locs hH hS => ?_)
  refine lv_aload_n hx hb dX1_open_12 rfl (lv_at hl 0 rfl) ?_
  refine lv_iconst (v := (-1 : Int32)) hx hb dX1_open_13 (by decide) ?_
  obtain ⟨S3, eS3, h⟩ := zb_some h
  refine z_puti X flX1_45 fpX1_6 hH hS eS3 dX1_open_14 (fun H locs hH hS => ?_)
  exact z_vret X hH hS h dX1_open_17
set_option maxRecDepth 100000 in
theorem kX1_open {N : Nat} {T : zS} {S : zS} {z : Nat} {x0 : Nat} {x1 : Nat} (h : rX1_open N S x0 x1 = some T) : Met l yX1_open [.code yX1_open cX1_open 2 none] { frames := 1, cells := 0, slots := 0, locals := 24 } (zP D cy A S z [.ref x0, .ref x1]) (zQ D cy A T z none) 0 0 A := by
  refine z_met (lv := [(0, .ref x0), (1, .ref x1)]) (by decide) (Nat.le_of_ble_eq_true rfl) rfl ?_
  intro p e s m below meth c X H locs ls hH hS hl
  exact wX1_open_0 X h _ _ _ hH hS (lv_sub hl [0, 1] rfl)
set_option maxRecDepth 100000 in
set_option maxHeartbeats 4000000 in
theorem wX1_hasGoodInputs_85 {z : Nat} {N : Nat} {r : Int32} {T : zS} (X : zX D cy p s m meth c cX1_hasGoodInputs 4 RX1 (some .boolean))  {S : zS} {y0 : Int32} (h : rX1_hasGoodInputs_85 N S y0 = some (r, T)) : zWt D cy A p l e { frames := 1, cells := 0, slots := 0, locals := 22 } s m args below meth c z 0 0 0 0 (zQ D cy A T z (some (.int r))) S 4 85 [] [.int y0] := by
  obtain ⟨hx, hb, hml, hown, hr, hlocks, hT⟩ := id X
  intro H locs ls hH hS hl
  unfold rX1_hasGoodInputs_85 at h
  exact z_zret X hH hS h dX1_hasGoodInputs_85
set_option maxRecDepth 100000 in
set_option maxHeartbeats 4000000 in
theorem wX1_hasGoodInputs_62 {z : Nat} {N : Nat} {r : Int32} {T : zS} (X : zX D cy p s m meth c cX1_hasGoodInputs 4 RX1 (some .boolean)) {K2 : zS × Nat × Int32 × Int32 → Option (Int32 × zS)} (hK2 : ∀ (S : zS) (x0 : Nat) (x1 : Int32) (x2 : Int32), K2 (S, x0, x1, x2) = some (r, T) → zWt D cy A p l e { frames := 1, cells := 0, slots := 0, locals := 22 } s m args below meth c z 0 0 0 0 (zQ D cy A T z (some (.int r))) S 4 2 [(0, .ref x0), (1, .int x1), (2, .int x2)] []) {S : zS} {x0 : Nat} {x1 : Int32} {x2 : Int32} (h : rX1_hasGoodInputs_62 N K2 S x0 x1 x2 = some (r, T)) : zWt D cy A p l e { frames := 1, cells := 0, slots := 0, locals := 22 } s m args below meth c z 0 0 0 0 (zQ D cy A T z (some (.int r))) S 4 62 [(0, .ref x0), (1, .int x1), (2, .int x2)] [] := by
  obtain ⟨hx, hb, hml, hown, hr, hlocks, hT⟩ := id X
  intro H locs ls hH hS hl
  unfold rX1_hasGoodInputs_62 at h
  refine lv_iinc (v := (x2 + (1 : Int32))) (lv' := [(2, .int (x2 + (1 : Int32))), (0, .ref x0), (1, .int x1)]) hx hb dX1_hasGoodInputs_62 hl (k := 2) rfl (z_ii (by decide) _) (by decide) rfl (fun ls hl => ?_)
  refine lv_goto (tgt := 2) hx hb dX1_hasGoodInputs_65 (by decide) ?_
  exact hK2 _ _ _ _ h _ _ _ hH hS (lv_sub hl [1, 2, 0] rfl)
set_option maxRecDepth 100000 in
set_option maxHeartbeats 4000000 in
theorem wX1_hasGoodInputs_60 {z : Nat} {N : Nat} {r : Int32} {T : zS} (X : zX D cy p s m meth c cX1_hasGoodInputs 4 RX1 (some .boolean))  {S : zS} (h : rX1_hasGoodInputs_60 N S = some (r, T)) : zWt D cy A p l e { frames := 1, cells := 0, slots := 0, locals := 22 } s m args below meth c z 0 0 0 0 (zQ D cy A T z (some (.int r))) S 4 60 [] [] := by
  obtain ⟨hx, hb, hml, hown, hr, hlocks, hT⟩ := id X
  intro H locs ls hH hS hl
  unfold rX1_hasGoodInputs_60 at h
  refine lv_iconst (v := (0 : Int32)) hx hb dX1_hasGoodInputs_60 (by decide) ?_
  exact z_zret X hH hS h dX1_hasGoodInputs_61
set_option maxRecDepth 100000 in
set_option maxHeartbeats 4000000 in
theorem wX1_hasGoodInputs_2 {z : Nat} {N : Nat} {r : Int32} {T : zS} (X : zX D cy p s m meth c cX1_hasGoodInputs 4 RX1 (some .boolean)) {K2 : zS × Nat × Int32 × Int32 → Option (Int32 × zS)} (hK2 : ∀ (S : zS) (x0 : Nat) (x1 : Int32) (x2 : Int32), K2 (S, x0, x1, x2) = some (r, T) → zWt D cy A p l e { frames := 1, cells := 0, slots := 0, locals := 22 } s m args below meth c z 0 0 0 0 (zQ D cy A T z (some (.int r))) S 4 2 [(0, .ref x0), (1, .int x1), (2, .int x2)] []) {S : zS} {x0 : Nat} {x1 : Int32} {x2 : Int32} (h : rX1_hasGoodInputs_2 N K2 S x0 x1 x2 = some (r, T)) : zWt D cy A p l e { frames := 1, cells := 0, slots := 0, locals := 22 } s m args below meth c z 0 0 0 0 (zQ D cy A T z (some (.int r))) S 4 2 [(0, .ref x0), (1, .int x1), (2, .int x2)] [] := by
  obtain ⟨hx, hb, hml, hown, hr, hlocks, hT⟩ := id X
  intro H locs ls hH hS hl
  unfold rX1_hasGoodInputs_2 at h
  refine lv_iload_n hx hb dX1_hasGoodInputs_2 rfl (lv_at hl 2 rfl) ?_
  refine lv_aload_n hx hb dX1_hasGoodInputs_3 rfl (lv_at hl 0 rfl) ?_
  obtain ⟨v1, ev1, h⟩ := zb_some h
  refine z_getr X flX1_28 hH ev1 dX1_hasGoodInputs_4 ?_
  obtain ⟨v2, ev2, h⟩ := zb_some h
  refine z_getr X flX1_80 hH ev2 dX1_hasGoodInputs_7 ?_
  refine lv_iload_n hx hb dX1_hasGoodInputs_10 rfl (lv_at hl 1 rfl) ?_
  obtain ⟨v3, ev3, h⟩ := zb_some h
  refine z_iald X hH ev3 dX1_hasGoodInputs_11 ?_
  refine lv_icmp_ge (tgt := 68) hx hb dX1_hasGoodInputs_12 (by decide) (fun c => ?_) (fun c => ?_)
  · have h := (if_pos c).symm.trans h
    refine lv_aload_n hx hb dX1_hasGoodInputs_68 rfl (lv_at hl 0 rfl) ?_
    obtain ⟨v4, ev4, h⟩ := zb_some h
    refine z_getr X flX1_28 hH ev4 dX1_hasGoodInputs_69 ?_
    obtain ⟨v5, ev5, h⟩ := zb_some h
    refine z_getr X flX1_80 hH ev5 dX1_hasGoodInputs_72 ?_
    refine lv_iload_n hx hb dX1_hasGoodInputs_75 rfl (lv_at hl 1 rfl) ?_
    obtain ⟨v6, ev6, h⟩ := zb_some h
    refine z_iald X hH ev6 dX1_hasGoodInputs_76 ?_
    refine lv_if_le (tgt := 84) hx hb dX1_hasGoodInputs_77 (by decide) (fun c => ?_) (fun c => ?_)
    · have h := (if_pos c).symm.trans h
      refine lv_iconst (v := (0 : Int32)) hx hb dX1_hasGoodInputs_84 (by decide) ?_
      exact wX1_hasGoodInputs_85 X h _ _ _ hH hS (lv_sub hl [] rfl)
    · have h := (if_neg c).symm.trans h
      refine lv_iconst (v := (1 : Int32)) hx hb dX1_hasGoodInputs_80 (by decide) ?_
      refine lv_goto (tgt := 85) hx hb dX1_hasGoodInputs_81 (by decide) ?_
      exact wX1_hasGoodInputs_85 X h _ _ _ hH hS (lv_sub hl [] rfl)
  · have h := (if_neg c).symm.trans h
    refine lv_aload_n hx hb dX1_hasGoodInputs_15 rfl (lv_at hl 0 rfl) ?_
    obtain ⟨v7, ev7, h⟩ := zb_some h
    refine z_getr X flX1_28 hH ev7 dX1_hasGoodInputs_16 ?_
    refine lv_iload_n hx hb dX1_hasGoodInputs_19 rfl (lv_at hl 1 rfl) ?_
    refine lv_iload_n hx hb dX1_hasGoodInputs_20 rfl (lv_at hl 2 rfl) ?_
    obtain ⟨u8, eu8, h⟩ := zb_some h
    obtain ⟨v10, S9, eS9, h⟩ := zb2_some h
    refine z_cV (As := [.int x1, .int x2]) X hl hH hS mlX1_83 eu8 (kX4_input eS9) rfl rfl (Nat.le_of_ble_eq_true rfl) ⟨rfl, rfl, Nat.le_of_ble_eq_true rfl, Nat.le_of_ble_eq_true rfl⟩ ⟨Nat.le_refl _, Nat.le_refl _⟩ dX1_hasGoodInputs_21 (fun H locs hH hS => ?_)
    refine lv_istore_n (lv' := [(3, .int v10), (0, .ref x0), (1, .int x1), (2, .int x2)]) hx hb dX1_hasGoodInputs_24 rfl hl (by decide) rfl (fun ls hl => ?_)
    refine lv_iload_n hx hb dX1_hasGoodInputs_25 rfl (lv_at hl 0 rfl) ?_
    refine lv_bipush (v := (100 : Int32)) hx hb dX1_hasGoodInputs_26 (by decide) ?_
    refine lv_icmp_ge (tgt := 48) hx hb dX1_hasGoodInputs_28 (by decide) (fun c => ?_) (fun c => ?_)
    · have h := (if_pos c).symm.trans h
      refine lv_aload_n hx hb dX1_hasGoodInputs_48 rfl (lv_at hl 1 rfl) ?_
      obtain ⟨v11, ev11, h⟩ := zb_some h
      refine z_getr X flX1_21 hH ev11 dX1_hasGoodInputs_49 ?_
      refine lv_iload_n hx hb dX1_hasGoodInputs_52 rfl (lv_at hl 0 rfl) ?_
      refine lv_bipush (v := (100 : Int32)) hx hb dX1_hasGoodInputs_53 (by decide) ?_
      refine lv_isub hx hb dX1_hasGoodInputs_55 ?_
      obtain ⟨v12, ev12, h⟩ := zb_some h
      refine z_zald X hH ev12 dX1_hasGoodInputs_56 ?_
      refine lv_if_eq (tgt := 62) hx hb dX1_hasGoodInputs_57 (by decide) (fun c => ?_) (fun c => ?_)
      · have h := (if_pos c).symm.trans h
        exact wX1_hasGoodInputs_62 X hK2 h _ _ _ hH hS (lv_sub hl [1, 2, 3] rfl)
      · have h := (if_neg c).symm.trans h
        exact wX1_hasGoodInputs_60 X h _ _ _ hH hS (lv_sub hl [] rfl)
    · have h := (if_neg c).symm.trans h
      refine lv_aload_n hx hb dX1_hasGoodInputs_31 rfl (lv_at hl 1 rfl) ?_
      obtain ⟨v13, ev13, h⟩ := zb_some h
      refine z_getr X flX1_32 hH ev13 dX1_hasGoodInputs_32 ?_
      obtain ⟨v14, ev14, h⟩ := zb_some h
      refine z_geti X flX1_87 hH ev14 dX1_hasGoodInputs_35 ?_
      refine lv_iload_n hx hb dX1_hasGoodInputs_38 rfl (lv_at hl 0 rfl) ?_
      refine lv_iushr hx hb dX1_hasGoodInputs_39 (zush_eq _ _) ?_
      refine lv_iconst (v := (1 : Int32)) hx hb dX1_hasGoodInputs_40 (by decide) ?_
      refine lv_iand hx hb dX1_hasGoodInputs_41 ?_
      refine lv_if_eq (tgt := 62) hx hb dX1_hasGoodInputs_42 (by decide) (fun c => ?_) (fun c => ?_)
      · have h := (if_pos c).symm.trans h
        exact wX1_hasGoodInputs_62 X hK2 h _ _ _ hH hS (lv_sub hl [1, 2, 3] rfl)
      · have h := (if_neg c).symm.trans h
        refine lv_goto (tgt := 60) hx hb dX1_hasGoodInputs_45 (by decide) ?_
        exact wX1_hasGoodInputs_60 X h _ _ _ hH hS (lv_sub hl [] rfl)
set_option maxRecDepth 100000 in
set_option maxHeartbeats 4000000 in
theorem uX1_hasGoodInputs_2 {z : Nat} {N : Nat} {r : Int32} {T : zS} (X : zX D cy p s m meth c cX1_hasGoodInputs 4 RX1 (some .boolean))  {S : zS} {x0 : Nat} {x1 : Int32} {x2 : Int32} (h : rlX1_hasGoodInputs_2 N S x0 x1 x2 = some (r, T)) : zWt D cy A p l e { frames := 1, cells := 0, slots := 0, locals := 22 } s m args below meth c z 0 0 0 0 (zQ D cy A T z (some (.int r))) S 4 2 [(0, .ref x0), (1, .int x1), (2, .int x2)] [] := by
  unfold rlX1_hasGoodInputs_2 at h
  refine zloop_ind (P := fun y => zWt D cy A p l e { frames := 1, cells := 0, slots := 0, locals := 22 } s m args below meth c z 0 0 0 0 (zQ D cy A T z (some (.int r))) y.1 4 2 [(0, .ref y.2.1), (1, .int y.2.2.1), (2, .int y.2.2.2)] []) ?_ N (S, x0, x1, x2) h
  intro K hK y hy
  obtain ⟨S, x0, x1, x2⟩ := y
  exact wX1_hasGoodInputs_2 X (fun S x0 x1 x2 hq => hK (S, x0, x1, x2) hq) hy
set_option maxRecDepth 100000 in
set_option maxHeartbeats 4000000 in
theorem wX1_hasGoodInputs_0 {z : Nat} {N : Nat} {r : Int32} {T : zS} (X : zX D cy p s m meth c cX1_hasGoodInputs 4 RX1 (some .boolean))  {S : zS} {x0 : Nat} {x1 : Int32} (h : rX1_hasGoodInputs_0 N S x0 x1 = some (r, T)) : zWt D cy A p l e { frames := 1, cells := 0, slots := 0, locals := 22 } s m args below meth c z 0 0 0 0 (zQ D cy A T z (some (.int r))) S 4 0 [(0, .ref x0), (1, .int x1)] [] := by
  obtain ⟨hx, hb, hml, hown, hr, hlocks, hT⟩ := id X
  intro H locs ls hH hS hl
  unfold rX1_hasGoodInputs_0 at h
  refine lv_iconst (v := (0 : Int32)) hx hb dX1_hasGoodInputs_0 (by decide) ?_
  refine lv_istore_n (lv' := [(2, .int (0 : Int32)), (0, .ref x0), (1, .int x1)]) hx hb dX1_hasGoodInputs_1 rfl hl (by decide) rfl (fun ls hl => ?_)
  exact uX1_hasGoodInputs_2 X h _ _ _ hH hS (lv_sub hl [1, 2, 0] rfl)
set_option maxRecDepth 100000 in
theorem kX1_hasGoodInputs {N : Nat} {r : Int32} {T : zS} {S : zS} {z : Nat} {x0 : Nat} {x1 : Int32} (h : rX1_hasGoodInputs N S x0 x1 = some (r, T)) : Met l yX1_hasGoodInputs [.code yX1_hasGoodInputs cX1_hasGoodInputs 4 (some .boolean)] { frames := 1, cells := 0, slots := 0, locals := 22 } (zP D cy A S z [.ref x0, .int x1]) (zQ D cy A T z (some (.int r))) 0 0 A := by
  refine z_met (lv := [(0, .ref x0), (1, .int x1)]) (by decide) (Nat.le_of_ble_eq_true rfl) rfl ?_
  intro p e s m below meth c X H locs ls hH hS hl
  exact wX1_hasGoodInputs_0 X h _ _ _ hH hS (lv_sub hl [0, 1] rfl)
set_option maxRecDepth 100000 in
set_option maxHeartbeats 4000000 in
theorem wX1_inputRow_37 {z : Nat} {N : Nat} {r : Nat} {T : zS} (X : zX D cy p s m meth c cX1_inputRow 4 RX1 (some (.object "BuiltTwice$Row")))  {S : zS} {y0 : Nat} (h : rX1_inputRow_37 N S y0 = some (r, T)) : zWt D cy A p l e { frames := 1, cells := 0, slots := 0, locals := 22 } s m args below meth c z 0 0 0 0 (zQ D cy A T z (some (.ref r))) S 4 37 [] [.ref y0] := by
  obtain ⟨hx, hb, hml, hown, hr, hlocks, hT⟩ := id X
  intro H locs ls hH hS hl
  unfold rX1_inputRow_37 at h
  exact z_aret X (Or.inl ⟨_, rfl⟩) hH hS h dX1_inputRow_37
set_option maxRecDepth 100000 in
set_option maxHeartbeats 4000000 in
theorem wX1_inputRow_0 {z : Nat} {N : Nat} {r : Nat} {T : zS} (X : zX D cy p s m meth c cX1_inputRow 4 RX1 (some (.object "BuiltTwice$Row")))  {S : zS} {x0 : Nat} {x1 : Int32} {x2 : Int32} (h : rX1_inputRow_0 N S x0 x1 x2 = some (r, T)) : zWt D cy A p l e { frames := 1, cells := 0, slots := 0, locals := 22 } s m args below meth c z 0 0 0 0 (zQ D cy A T z (some (.ref r))) S 4 0 [(0, .ref x0), (1, .int x1), (2, .int x2)] [] := by
  obtain ⟨hx, hb, hml, hown, hr, hlocks, hT⟩ := id X
  intro H locs ls hH hS hl
  unfold rX1_inputRow_0 at h
  refine lv_aload_n hx hb dX1_inputRow_0 rfl (lv_at hl 0 rfl) ?_
  obtain ⟨v1, ev1, h⟩ := zb_some h
  refine z_getr X flX1_28 hH ev1 dX1_inputRow_1 ?_
  refine lv_iload_n hx hb dX1_inputRow_4 rfl (lv_at hl 1 rfl) ?_
  refine lv_iload_n hx hb dX1_inputRow_5 rfl (lv_at hl 2 rfl) ?_
  obtain ⟨u2, eu2, h⟩ := zb_some h
  obtain ⟨v4, S3, eS3, h⟩ := zb2_some h
  refine z_cV (As := [.int x1, .int x2]) X hl hH hS mlX1_83 eu2 (kX4_input eS3) rfl rfl (Nat.le_of_ble_eq_true rfl) ⟨rfl, rfl, Nat.le_of_ble_eq_true rfl, Nat.le_of_ble_eq_true rfl⟩ ⟨Nat.le_refl _, Nat.le_refl _⟩ dX1_inputRow_6 (fun H locs hH hS => ?_)
  refine lv_istore_n (lv' := [(3, .int v4), (0, .ref x0), (1, .int x1), (2, .int x2)]) hx hb dX1_inputRow_9 rfl hl (by decide) rfl (fun ls hl => ?_)
  refine lv_iload_n hx hb dX1_inputRow_10 rfl (lv_at hl 0 rfl) ?_
  refine lv_bipush (v := (100 : Int32)) hx hb dX1_inputRow_11 (by decide) ?_
  refine lv_icmp_ge (tgt := 28) hx hb dX1_inputRow_13 (by decide) (fun c => ?_) (fun c => ?_)
  · have h := (if_pos c).symm.trans h
    refine lv_aload_n hx hb dX1_inputRow_28 rfl (lv_at hl 1 rfl) ?_
    obtain ⟨v5, ev5, h⟩ := zb_some h
    refine z_getr X flX1_17 hH ev5 dX1_inputRow_29 ?_
    refine lv_iload_n hx hb dX1_inputRow_32 rfl (lv_at hl 0 rfl) ?_
    refine lv_bipush (v := (100 : Int32)) hx hb dX1_inputRow_33 (by decide) ?_
    refine lv_isub hx hb dX1_inputRow_35 ?_
    obtain ⟨v6, ev6, h⟩ := zb_some h
    refine z_aald X hH 12 (by decide) ev6 dX1_inputRow_36 ?_
    exact wX1_inputRow_37 X h _ _ _ hH hS (lv_sub hl [] rfl)
  · have h := (if_neg c).symm.trans h
    refine lv_aload_n hx hb dX1_inputRow_16 rfl (lv_at hl 1 rfl) ?_
    obtain ⟨v7, ev7, h⟩ := zb_some h
    refine z_getr X flX1_32 hH ev7 dX1_inputRow_17 ?_
    obtain ⟨v8, ev8, h⟩ := zb_some h
    refine z_getr X flX1_92 hH ev8 dX1_inputRow_20 ?_
    refine lv_iload_n hx hb dX1_inputRow_23 rfl (lv_at hl 0 rfl) ?_
    obtain ⟨v9, ev9, h⟩ := zb_some h
    refine z_aald X hH 12 (by decide) ev9 dX1_inputRow_24 ?_
    refine lv_goto (tgt := 37) hx hb dX1_inputRow_25 (by decide) ?_
    exact wX1_inputRow_37 X h _ _ _ hH hS (lv_sub hl [] rfl)
set_option maxRecDepth 100000 in
theorem kX1_inputRow {N : Nat} {r : Nat} {T : zS} {S : zS} {z : Nat} {x0 : Nat} {x1 : Int32} {x2 : Int32} (h : rX1_inputRow N S x0 x1 x2 = some (r, T)) : Met l yX1_inputRow [.code yX1_inputRow cX1_inputRow 4 (some (.object "BuiltTwice$Row"))] { frames := 1, cells := 0, slots := 0, locals := 22 } (zP D cy A S z [.ref x0, .int x1, .int x2]) (zQ D cy A T z (some (.ref r))) 0 0 A := by
  refine z_met (lv := [(0, .ref x0), (1, .int x1), (2, .int x2)]) (by decide) (Nat.le_of_ble_eq_true rfl) rfl ?_
  intro p e s m below meth c X H locs ls hH hS hl
  exact wX1_inputRow_0 X h _ _ _ hH hS (lv_sub hl [0, 1, 2] rfl)
set_option maxRecDepth 100000 in
set_option maxHeartbeats 4000000 in
theorem wX1_join_40 {N : Nat} {MC MS zT : Nat} {r : Int32} {T : zS} (X : zX D cy p s m meth c cX1_join 6 RX1 (some .boolean)) (hA : ∀ q : Nat, s.heap.size ≤ q → A q) {K14 : zS × Nat × Nat × Int32 × Nat × Int32 × Int32 × Int32 → Option (Int32 × zS × Nat)} (hK14 : ∀ (S : zS) (z : Nat) (x0 : Nat) (x1 : Int32) (x2 : Nat) (x3 : Int32) (x4 : Int32) (x5 : Int32) (q : Nat) (w : Nat), q + zT ≤ MC + z → w + 200 * zT ≤ MS + 200 * z → K14 (S, z, x0, x1, x2, x3, x4, x5) = some (r, T, zT) → zWt D cy A p l e ({ frames := 2, cells := MC, slots := MS, locals := 45 } : Room) s m args below meth c z q w MC MS (zQ D cy A T zT (some (.int r))) S 6 14 [(0, .ref x0), (1, .int x1), (2, .ref x2), (3, .int x3), (4, .int x4), (5, .int x5)] []) {S : zS} {z : Nat} {x0 : Nat} {x1 : Int32} {x2 : Nat} {x3 : Int32} {x4 : Int32} {x5 : Int32} {y0 : Nat} {y1 : Nat} {y2 : Int32} {y3 : Int32} {q w : Nat} (hq : q + zT ≤ MC + z) (hw : w + 200 * zT ≤ MS + 200 * z) (h : rX1_join_40 N K14 S z x0 x1 x2 x3 x4 x5 y0 y1 y2 y3 = some (r, T, zT)) : zWt D cy A p l e ({ frames := 2, cells := MC, slots := MS, locals := 45 } : Room) s m args below meth c z q w MC MS (zQ D cy A T zT (some (.int r))) S 6 40 [(0, .ref x0), (1, .int x1), (2, .ref x2), (3, .int x3), (4, .int x4), (5, .int x5)] [.int y3, .int y2, .ref y1, .ref y0] := by
  obtain ⟨hx, hb, hml, hown, hr, hlocks, hT⟩ := id X
  intro H locs ls hH hS hl
  unfold rX1_join_40 at h
  obtain ⟨h, hz⟩ := zgeI_some h
  obtain ⟨u1, eu1, h⟩ := zb_some h
  obtain ⟨v3, S2, eS2, h⟩ := zb2_some h
  refine z_cV (As := [.int y2, .int y3]) X hl hH hS mlX1_104 eu1 (kX1_inputRow eS2) rfl rfl (Nat.le_of_ble_eq_true rfl) ⟨rfl, rfl, Nat.le_of_ble_eq_true rfl, Nat.le_of_ble_eq_true rfl⟩ (zz_0 hq hw hz) dX1_join_40 (fun H locs hH hS => ?_)
  obtain ⟨u4, eu4, h⟩ := zb_some h
  obtain ⟨v7, S5, z6, eS5, h⟩ := zb3_some h
  obtain ⟨h, hzz6⟩ := zgeI_some h
  have hmz6 := mX5_append eS5
  refine z_cV (As := [.ref v3]) X hl hH hS mlX1_108 eu4 (kX5_append (fun q h => hA q (Nat.le_trans (Nat.le_trans hS.1.1 (Nat.le_of_eq hS.2)) h)) eS5) rfl rfl (Nat.le_of_ble_eq_true rfl) ⟨rfl, rfl, Nat.le_of_ble_eq_true rfl, Nat.le_of_ble_eq_true rfl⟩ (zz_f hq hw hmz6 hzz6) dX1_join_43 (fun H locs hH hS => ?_)
  obtain ⟨hq, hw⟩ := zz_q hq hw hmz6
  have hz := hzz6
  refine lv_if_ne (tgt := 51) hx hb dX1_join_46 (by decide) (fun c => ?_) (fun c => ?_)
  · have h := (if_neg c).symm.trans h
    refine lv_iinc (v := (x5 + (1 : Int32))) (lv' := [(5, .int (x5 + (1 : Int32))), (0, .ref x0), (1, .int x1), (2, .ref x2), (3, .int x3), (4, .int x4)]) hx hb dX1_join_51 hl (k := 5) rfl (z_ii (by decide) _) (by decide) rfl (fun ls hl => ?_)
    refine lv_goto (tgt := 14) hx hb dX1_join_54 (by decide) ?_
    exact hK14 _ _ _ _ _ _ _ _ _ _ hq hw h _ _ _ hH hS (lv_sub hl [1, 2, 3, 4, 5, 0] rfl)
  · have h := (if_pos c).symm.trans h
    refine lv_iconst (v := (0 : Int32)) hx hb dX1_join_49 (by decide) ?_
    exact z_zretZ X hH hS h hq hw dX1_join_50
set_option maxRecDepth 100000 in
set_option maxHeartbeats 4000000 in
theorem wX1_join_14 {N : Nat} {MC MS zT : Nat} {r : Int32} {T : zS} (X : zX D cy p s m meth c cX1_join 6 RX1 (some .boolean)) (hA : ∀ q : Nat, s.heap.size ≤ q → A q) {K14 : zS × Nat × Nat × Int32 × Nat × Int32 × Int32 × Int32 → Option (Int32 × zS × Nat)} (hK14 : ∀ (S : zS) (z : Nat) (x0 : Nat) (x1 : Int32) (x2 : Nat) (x3 : Int32) (x4 : Int32) (x5 : Int32) (q : Nat) (w : Nat), q + zT ≤ MC + z → w + 200 * zT ≤ MS + 200 * z → K14 (S, z, x0, x1, x2, x3, x4, x5) = some (r, T, zT) → zWt D cy A p l e ({ frames := 2, cells := MC, slots := MS, locals := 45 } : Room) s m args below meth c z q w MC MS (zQ D cy A T zT (some (.int r))) S 6 14 [(0, .ref x0), (1, .int x1), (2, .ref x2), (3, .int x3), (4, .int x4), (5, .int x5)] []) {S : zS} {z : Nat} {x0 : Nat} {x1 : Int32} {x2 : Nat} {x3 : Int32} {x4 : Int32} {x5 : Int32} {q w : Nat} (hq : q + zT ≤ MC + z) (hw : w + 200 * zT ≤ MS + 200 * z) (h : rX1_join_14 N K14 S z x0 x1 x2 x3 x4 x5 = some (r, T, zT)) : zWt D cy A p l e ({ frames := 2, cells := MC, slots := MS, locals := 45 } : Room) s m args below meth c z q w MC MS (zQ D cy A T zT (some (.int r))) S 6 14 [(0, .ref x0), (1, .int x1), (2, .ref x2), (3, .int x3), (4, .int x4), (5, .int x5)] [] := by
  obtain ⟨hx, hb, hml, hown, hr, hlocks, hT⟩ := id X
  intro H locs ls hH hS hl
  unfold rX1_join_14 at h
  obtain ⟨h, hz⟩ := zgeI_some h
  refine lv_iload hx hb dX1_join_14 (lv_at hl 5 rfl) ?_
  refine lv_iload hx hb dX1_join_16 (lv_at hl 4 rfl) ?_
  refine lv_icmp_ge (tgt := 57) hx hb dX1_join_18 (by decide) (fun c => ?_) (fun c => ?_)
  · have h := (if_pos c).symm.trans h
    refine lv_iconst (v := (1 : Int32)) hx hb dX1_join_57 (by decide) ?_
    exact z_zretZ X hH hS h hq hw dX1_join_58
  · have h := (if_neg c).symm.trans h
    refine lv_aload_n hx hb dX1_join_21 rfl (lv_at hl 2 rfl) ?_
    refine lv_aload_n hx hb dX1_join_22 rfl (lv_at hl 0 rfl) ?_
    refine lv_iload_n hx hb dX1_join_23 rfl (lv_at hl 1 rfl) ?_
    refine lv_iload_n hx hb dX1_join_24 rfl (lv_at hl 3 rfl) ?_
    refine lv_if_eq (tgt := 38) hx hb dX1_join_25 (by decide) (fun c => ?_) (fun c => ?_)
    · have h := (if_pos c).symm.trans h
      refine lv_iload hx hb dX1_join_38 (lv_at hl 5 rfl) ?_
      exact wX1_join_40 X hA hK14 hq hw h _ _ _ hH hS (lv_sub hl [0, 1, 2, 3, 4, 5] rfl)
    · have h := (if_neg c).symm.trans h
      refine lv_iload hx hb dX1_join_28 (lv_at hl 4 rfl) ?_
      refine lv_iconst (v := (1 : Int32)) hx hb dX1_join_30 (by decide) ?_
      refine lv_isub hx hb dX1_join_31 ?_
      refine lv_iload hx hb dX1_join_32 (lv_at hl 5 rfl) ?_
      refine lv_isub hx hb dX1_join_34 ?_
      refine lv_goto (tgt := 40) hx hb dX1_join_35 (by decide) ?_
      exact wX1_join_40 X hA hK14 hq hw h _ _ _ hH hS (lv_sub hl [0, 1, 2, 3, 4, 5] rfl)
set_option maxRecDepth 100000 in
set_option maxHeartbeats 4000000 in
theorem uX1_join_14 {N : Nat} {MC MS zT : Nat} {r : Int32} {T : zS} (X : zX D cy p s m meth c cX1_join 6 RX1 (some .boolean)) (hA : ∀ q : Nat, s.heap.size ≤ q → A q)  {S : zS} {z : Nat} {x0 : Nat} {x1 : Int32} {x2 : Nat} {x3 : Int32} {x4 : Int32} {x5 : Int32} {q w : Nat} (hq : q + zT ≤ MC + z) (hw : w + 200 * zT ≤ MS + 200 * z) (h : rlX1_join_14 N S z x0 x1 x2 x3 x4 x5 = some (r, T, zT)) : zWt D cy A p l e ({ frames := 2, cells := MC, slots := MS, locals := 45 } : Room) s m args below meth c z q w MC MS (zQ D cy A T zT (some (.int r))) S 6 14 [(0, .ref x0), (1, .int x1), (2, .ref x2), (3, .int x3), (4, .int x4), (5, .int x5)] [] := by
  unfold rlX1_join_14 at h
  refine zloop_ind (P := fun y => ∀ (q : Nat) (w : Nat), q + zT ≤ MC + y.2.1 → w + 200 * zT ≤ MS + 200 * y.2.1 → zWt D cy A p l e ({ frames := 2, cells := MC, slots := MS, locals := 45 } : Room) s m args below meth c y.2.1 q w MC MS (zQ D cy A T zT (some (.int r))) y.1 6 14 [(0, .ref y.2.2.1), (1, .int y.2.2.2.1), (2, .ref y.2.2.2.2.1), (3, .int y.2.2.2.2.2.1), (4, .int y.2.2.2.2.2.2.1), (5, .int y.2.2.2.2.2.2.2)] []) ?_ N (S, z, x0, x1, x2, x3, x4, x5) h _ _ hq hw
  intro K hK y hy q w hq hw
  obtain ⟨S, z, x0, x1, x2, x3, x4, x5⟩ := y
  exact wX1_join_14 X hA (fun S z x0 x1 x2 x3 x4 x5 q w hq hw h => hK (S, z, x0, x1, x2, x3, x4, x5) h q w hq hw) hq hw hy
set_option maxRecDepth 100000 in
set_option maxHeartbeats 4000000 in
theorem wX1_join_0 {N : Nat} {MC MS zT : Nat} {r : Int32} {T : zS} (X : zX D cy p s m meth c cX1_join 6 RX1 (some .boolean)) (hA : ∀ q : Nat, s.heap.size ≤ q → A q)  {S : zS} {z : Nat} {x0 : Nat} {x1 : Int32} {x2 : Nat} {x3 : Int32} {q w : Nat} (hq : q + zT ≤ MC + z) (hw : w + 200 * zT ≤ MS + 200 * z) (h : rX1_join_0 N S z x0 x1 x2 x3 = some (r, T, zT)) : zWt D cy A p l e ({ frames := 2, cells := MC, slots := MS, locals := 45 } : Room) s m args below meth c z q w MC MS (zQ D cy A T zT (some (.int r))) S 6 0 [(0, .ref x0), (1, .int x1), (2, .ref x2), (3, .int x3)] [] := by
  obtain ⟨hx, hb, hml, hown, hr, hlocks, hT⟩ := id X
  intro H locs ls hH hS hl
  unfold rX1_join_0 at h
  obtain ⟨h, hz⟩ := zgeI_some h
  refine lv_aload_n hx hb dX1_join_0 rfl (lv_at hl 0 rfl) ?_
  obtain ⟨v8, ev8, h⟩ := zb_some h
  refine z_getr X flX1_28 hH ev8 dX1_join_1 ?_
  obtain ⟨v9, ev9, h⟩ := zb_some h
  refine z_getr X flX1_80 hH ev9 dX1_join_4 ?_
  refine lv_iload_n hx hb dX1_join_7 rfl (lv_at hl 1 rfl) ?_
  obtain ⟨v10, ev10, h⟩ := zb_some h
  refine z_iald X hH ev10 dX1_join_8 ?_
  refine lv_istore (lv' := [(4, .int v10), (0, .ref x0), (1, .int x1), (2, .ref x2), (3, .int x3)]) hx hb dX1_join_9 hl (by decide) rfl (fun ls hl => ?_)
  refine lv_iconst (v := (0 : Int32)) hx hb dX1_join_11 (by decide) ?_
  refine lv_istore (lv' := [(5, .int (0 : Int32)), (4, .int v10), (0, .ref x0), (1, .int x1), (2, .ref x2), (3, .int x3)]) hx hb dX1_join_12 hl (by decide) rfl (fun ls hl => ?_)
  exact uX1_join_14 X hA hq hw h _ _ _ hH hS (lv_sub hl [2, 3, 4, 5, 1, 0] rfl)
theorem mX1_join {N : Nat} {zT : Nat} {r : Int32} {T : zS} {S : zS} {z : Nat} {x0 : Nat} {x1 : Int32} {x2 : Nat} {x3 : Int32} (h : rX1_join N S z x0 x1 x2 x3 = some (r, T, zT)) : z ≤ zT := by
  unfold rX1_join rX1_join_0 at h
  exact (zgeI_some h).2
set_option maxRecDepth 100000 in
theorem kX1_join {N : Nat} {zT : Nat} {r : Int32} {T : zS} {S : zS} {z : Nat} {x0 : Nat} {x1 : Int32} {x2 : Nat} {x3 : Int32} (hA0 : ∀ q : Nat, z ≤ q → A q) (h : rX1_join N S z x0 x1 x2 x3 = some (r, T, zT)) : Met l yX1_join [.code yX1_join cX1_join 6 (some .boolean)] ({ frames := 2, cells := zT - z, slots := 200 * (zT - z), locals := 45 } : Room) (zP D cy A S z [.ref x0, .int x1, .ref x2, .int x3]) (zQ D cy A T zT (some (.int r))) (zT - z) (200 * (zT - z)) A := by
  have hm := mX1_join h
  refine z_metA (lv := [(0, .ref x0), (1, .int x1), (2, .ref x2), (3, .int x3)]) (by decide) (Nat.le_of_ble_eq_true rfl) rfl ?_
  intro p e s m below meth c X hz H locs ls hH hS hl
  exact wX1_join_0 X (fun q hq => hA0 q (by rw [← hz]; exact hq)) (zz_s hm).1 (zz_s hm).2 h _ _ _ hH hS (lv_sub hl [0, 1, 2, 3] rfl)
set_option maxRecDepth 100000 in
set_option maxHeartbeats 4000000 in
theorem wX1_mask_2 {z : Nat} {N : Nat} {T : zS} (X : zX D cy p s m meth c cX1_mask 3 RX1 none) {K2 : zS × Nat × Int32 × Int32 → Option (zS)} (hK2 : ∀ (S : zS) (x0 : Nat) (x1 : Int32) (x2 : Int32), K2 (S, x0, x1, x2) = some T → zWt D cy A p l e { frames := 0, cells := 0, slots := 0, locals := 0 } s m args below meth c z 0 0 0 0 (zQ D cy A T z none) S 3 2 [(0, .ref x0), (1, .int x1), (2, .int x2)] []) {S : zS} {x0 : Nat} {x1 : Int32} {x2 : Int32} (h : rX1_mask_2 N K2 S x0 x1 x2 = some T) : zWt D cy A p l e { frames := 0, cells := 0, slots := 0, locals := 0 } s m args below meth c z 0 0 0 0 (zQ D cy A T z none) S 3 2 [(0, .ref x0), (1, .int x1), (2, .int x2)] [] := by
  obtain ⟨hx, hb, hml, hown, hr, hlocks, hT⟩ := id X
  intro H locs ls hH hS hl
  unfold rX1_mask_2 at h
  refine lv_iload_n hx hb dX1_mask_2 rfl (lv_at hl 2 rfl) ?_
  refine lv_aload_n hx hb dX1_mask_3 rfl (lv_at hl 0 rfl) ?_
  obtain ⟨v1, ev1, h⟩ := zb_some h
  refine z_geti X flX1_68 hH ev1 dX1_mask_4 ?_
  refine lv_icmp_ge (tgt := 26) hx hb dX1_mask_7 (by decide) (fun c => ?_) (fun c => ?_)
  · have h := (if_pos c).symm.trans h
    exact z_vret X hH hS h dX1_mask_26
  · have h := (if_neg c).symm.trans h
    refine lv_aload_n hx hb dX1_mask_10 rfl (lv_at hl 0 rfl) ?_
    obtain ⟨v2, ev2, h⟩ := zb_some h
    refine z_getr X flX1_133 hH ev2 dX1_mask_11 ?_
    refine lv_iload_n hx hb dX1_mask_14 rfl (lv_at hl 2 rfl) ?_
    refine lv_dup2_11 hx hb dX1_mask_15 rfl rfl ?_
    obtain ⟨v3, ev3, h⟩ := zb_some h
    refine z_iald X hH ev3 dX1_mask_16 ?_
    refine lv_iload_n hx hb dX1_mask_17 rfl (lv_at hl 1 rfl) ?_
    refine lv_ixor hx hb dX1_mask_18 ?_
    obtain ⟨S4, eS4, h⟩ := zb_some h
    refine z_iast X hH hS eS4 dX1_mask_19 (fun H locs hH hS => ?_)
    refine lv_iinc (v := (x2 + (1 : Int32))) (lv' := [(2, .int (x2 + (1 : Int32))), (0, .ref x0), (1, .int x1)]) hx hb dX1_mask_20 hl (k := 2) rfl (z_ii (by decide) _) (by decide) rfl (fun ls hl => ?_)
    refine lv_goto (tgt := 2) hx hb dX1_mask_23 (by decide) ?_
    exact hK2 _ _ _ _ h _ _ _ hH hS (lv_sub hl [1, 2, 0] rfl)
set_option maxRecDepth 100000 in
set_option maxHeartbeats 4000000 in
theorem uX1_mask_2 {z : Nat} {N : Nat} {T : zS} (X : zX D cy p s m meth c cX1_mask 3 RX1 none)  {S : zS} {x0 : Nat} {x1 : Int32} {x2 : Int32} (h : rlX1_mask_2 N S x0 x1 x2 = some T) : zWt D cy A p l e { frames := 0, cells := 0, slots := 0, locals := 0 } s m args below meth c z 0 0 0 0 (zQ D cy A T z none) S 3 2 [(0, .ref x0), (1, .int x1), (2, .int x2)] [] := by
  unfold rlX1_mask_2 at h
  refine zloop_ind (P := fun y => zWt D cy A p l e { frames := 0, cells := 0, slots := 0, locals := 0 } s m args below meth c z 0 0 0 0 (zQ D cy A T z none) y.1 3 2 [(0, .ref y.2.1), (1, .int y.2.2.1), (2, .int y.2.2.2)] []) ?_ N (S, x0, x1, x2) h
  intro K hK y hy
  obtain ⟨S, x0, x1, x2⟩ := y
  exact wX1_mask_2 X (fun S x0 x1 x2 hq => hK (S, x0, x1, x2) hq) hy
set_option maxRecDepth 100000 in
set_option maxHeartbeats 4000000 in
theorem wX1_mask_0 {z : Nat} {N : Nat} {T : zS} (X : zX D cy p s m meth c cX1_mask 3 RX1 none)  {S : zS} {x0 : Nat} {x1 : Int32} (h : rX1_mask_0 N S x0 x1 = some T) : zWt D cy A p l e { frames := 0, cells := 0, slots := 0, locals := 0 } s m args below meth c z 0 0 0 0 (zQ D cy A T z none) S 3 0 [(0, .ref x0), (1, .int x1)] [] := by
  obtain ⟨hx, hb, hml, hown, hr, hlocks, hT⟩ := id X
  intro H locs ls hH hS hl
  unfold rX1_mask_0 at h
  refine lv_iconst (v := (0 : Int32)) hx hb dX1_mask_0 (by decide) ?_
  refine lv_istore_n (lv' := [(2, .int (0 : Int32)), (0, .ref x0), (1, .int x1)]) hx hb dX1_mask_1 rfl hl (by decide) rfl (fun ls hl => ?_)
  exact uX1_mask_2 X h _ _ _ hH hS (lv_sub hl [1, 2, 0] rfl)
set_option maxRecDepth 100000 in
theorem kX1_mask {N : Nat} {T : zS} {S : zS} {z : Nat} {x0 : Nat} {x1 : Int32} (h : rX1_mask N S x0 x1 = some T) : Met l yX1_mask [.code yX1_mask cX1_mask 3 none] { frames := 0, cells := 0, slots := 0, locals := 0 } (zP D cy A S z [.ref x0, .int x1]) (zQ D cy A T z none) 0 0 A := by
  refine z_met (lv := [(0, .ref x0), (1, .int x1)]) (by decide) (Nat.le_of_ble_eq_true rfl) rfl ?_
  intro p e s m below meth c X H locs ls hH hS hl
  exact wX1_mask_0 X h _ _ _ hH hS (lv_sub hl [0, 1] rfl)
set_option maxRecDepth 100000 in
set_option maxHeartbeats 4000000 in
theorem wX1_sign_39 {N : Nat} {MC MS zT : Nat} {T : zS} (X : zX D cy p s m meth c cX1_sign 3 RX1 none) (hA : ∀ q : Nat, s.heap.size ≤ q → A q) {K39 : zS × Nat × Nat × Int32 × Int32 → Option (zS × Nat)} (hK39 : ∀ (S : zS) (z : Nat) (x0 : Nat) (x1 : Int32) (x2 : Int32) (q : Nat) (w : Nat), q + zT ≤ MC + z → w + 200 * zT ≤ MS + 200 * z → K39 (S, z, x0, x1, x2) = some (T, zT) → zWt D cy A p l e ({ frames := 2, cells := MC, slots := MS, locals := 42 } : Room) s m args below meth c z q w MC MS (zQ D cy A T zT none) S 3 39 [(0, .ref x0), (1, .int x1), (2, .int x2)] []) {S : zS} {z : Nat} {x0 : Nat} {x1 : Int32} {x2 : Int32} {q w : Nat} (hq : q + zT ≤ MC + z) (hw : w + 200 * zT ≤ MS + 200 * z) (h : rX1_sign_39 N K39 S z x0 x1 x2 = some (T, zT)) : zWt D cy A p l e ({ frames := 2, cells := MC, slots := MS, locals := 42 } : Room) s m args below meth c z q w MC MS (zQ D cy A T zT none) S 3 39 [(0, .ref x0), (1, .int x1), (2, .int x2)] [] := by
  obtain ⟨hx, hb, hml, hown, hr, hlocks, hT⟩ := id X
  intro H locs ls hH hS hl
  unfold rX1_sign_39 at h
  obtain ⟨h, hz⟩ := zgeV_some h
  refine lv_iload_n hx hb dX1_sign_39 rfl (lv_at hl 2 rfl) ?_
  refine lv_if_lt (tgt := 61) hx hb dX1_sign_40 (by decide) (fun c => ?_) (fun c => ?_)
  · have h := (if_pos c).symm.trans h
    exact z_vretZ X hH hS h hq hw dX1_sign_61
  · have h := (if_neg c).symm.trans h
    refine lv_aload_n hx hb dX1_sign_43 rfl (lv_at hl 0 rfl) ?_
    refine lv_iload_n hx hb dX1_sign_44 rfl (lv_at hl 1 rfl) ?_
    refine lv_iload_n hx hb dX1_sign_45 rfl (lv_at hl 2 rfl) ?_
    refine lv_iushr hx hb dX1_sign_46 (zush_eq _ _) ?_
    refine lv_sipush (v := (255 : Int32)) hx hb dX1_sign_47 (by decide) ?_
    refine lv_iand hx hb dX1_sign_50 ?_
    obtain ⟨u1, eu1, h⟩ := zb_some h
    obtain ⟨v4, S2, z3, eS2, h⟩ := zb3_some h
    obtain ⟨h, hzz3⟩ := zgeV_some h
    have hmz3 := mX5_put eS2
    refine z_cV (As := [.int ((zush x1 x2) &&& (255 : Int32))]) X hl hH hS mlX1_116 eu1 (kX5_put (fun q h => hA q (Nat.le_trans (Nat.le_trans hS.1.1 (Nat.le_of_eq hS.2)) h)) eS2) rfl rfl (Nat.le_of_ble_eq_true rfl) ⟨rfl, rfl, Nat.le_of_ble_eq_true rfl, Nat.le_of_ble_eq_true rfl⟩ (zz_f hq hw hmz3 hzz3) dX1_sign_51 (fun H locs hH hS => ?_)
    obtain ⟨hq, hw⟩ := zz_q hq hw hmz3
    have hz := hzz3
    refine lv_pop hx hb dX1_sign_54 rfl ?_
    refine lv_iinc (v := (x2 + (-8 : Int32))) (lv' := [(2, .int (x2 + (-8 : Int32))), (0, .ref x0), (1, .int x1)]) hx hb dX1_sign_55 hl (k := 2) rfl (z_ii (by decide) _) (by decide) rfl (fun ls hl => ?_)
    refine lv_goto (tgt := 39) hx hb dX1_sign_58 (by decide) ?_
    exact hK39 _ _ _ _ _ _ _ hq hw h _ _ _ hH hS (lv_sub hl [1, 2, 0] rfl)
set_option maxRecDepth 100000 in
set_option maxHeartbeats 4000000 in
theorem uX1_sign_39 {N : Nat} {MC MS zT : Nat} {T : zS} (X : zX D cy p s m meth c cX1_sign 3 RX1 none) (hA : ∀ q : Nat, s.heap.size ≤ q → A q)  {S : zS} {z : Nat} {x0 : Nat} {x1 : Int32} {x2 : Int32} {q w : Nat} (hq : q + zT ≤ MC + z) (hw : w + 200 * zT ≤ MS + 200 * z) (h : rlX1_sign_39 N S z x0 x1 x2 = some (T, zT)) : zWt D cy A p l e ({ frames := 2, cells := MC, slots := MS, locals := 42 } : Room) s m args below meth c z q w MC MS (zQ D cy A T zT none) S 3 39 [(0, .ref x0), (1, .int x1), (2, .int x2)] [] := by
  unfold rlX1_sign_39 at h
  refine zloop_ind (P := fun y => ∀ (q : Nat) (w : Nat), q + zT ≤ MC + y.2.1 → w + 200 * zT ≤ MS + 200 * y.2.1 → zWt D cy A p l e ({ frames := 2, cells := MC, slots := MS, locals := 42 } : Room) s m args below meth c y.2.1 q w MC MS (zQ D cy A T zT none) y.1 3 39 [(0, .ref y.2.2.1), (1, .int y.2.2.2.1), (2, .int y.2.2.2.2)] []) ?_ N (S, z, x0, x1, x2) h _ _ hq hw
  intro K hK y hy q w hq hw
  obtain ⟨S, z, x0, x1, x2⟩ := y
  exact wX1_sign_39 X hA (fun S z x0 x1 x2 q w hq hw h => hK (S, z, x0, x1, x2) h q w hq hw) hq hw hy
set_option maxRecDepth 100000 in
set_option maxHeartbeats 4000000 in
theorem wX1_sign_5 {N : Nat} {MC MS zT : Nat} {T : zS} (X : zX D cy p s m meth c cX1_sign 3 RX1 none) (hA : ∀ q : Nat, s.heap.size ≤ q → A q) {K5 : zS × Nat × Nat × Int32 × Int32 → Option (zS × Nat)} (hK5 : ∀ (S : zS) (z : Nat) (x0 : Nat) (x1 : Int32) (x2 : Int32) (q : Nat) (w : Nat), q + zT ≤ MC + z → w + 200 * zT ≤ MS + 200 * z → K5 (S, z, x0, x1, x2) = some (T, zT) → zWt D cy A p l e ({ frames := 2, cells := MC, slots := MS, locals := 42 } : Room) s m args below meth c z q w MC MS (zQ D cy A T zT none) S 3 5 [(0, .ref x0), (1, .int x1), (2, .int x2)] []) {S : zS} {z : Nat} {x0 : Nat} {x1 : Int32} {x2 : Int32} {q w : Nat} (hq : q + zT ≤ MC + z) (hw : w + 200 * zT ≤ MS + 200 * z) (h : rX1_sign_5 N K5 S z x0 x1 x2 = some (T, zT)) : zWt D cy A p l e ({ frames := 2, cells := MC, slots := MS, locals := 42 } : Room) s m args below meth c z q w MC MS (zQ D cy A T zT none) S 3 5 [(0, .ref x0), (1, .int x1), (2, .int x2)] [] := by
  obtain ⟨hx, hb, hml, hown, hr, hlocks, hT⟩ := id X
  intro H locs ls hH hS hl
  unfold rX1_sign_5 at h
  obtain ⟨h, hz⟩ := zgeV_some h
  refine lv_iload_n hx hb dX1_sign_5 rfl (lv_at hl 2 rfl) ?_
  refine lv_aload_n hx hb dX1_sign_6 rfl (lv_at hl 0 rfl) ?_
  obtain ⟨v5, ev5, h⟩ := zb_some h
  refine z_geti X flX1_68 hH ev5 dX1_sign_7 ?_
  refine lv_icmp_ge (tgt := 31) hx hb dX1_sign_10 (by decide) (fun c => ?_) (fun c => ?_)
  · have h := (if_pos c).symm.trans h
    refine lv_aload_n hx hb dX1_sign_31 rfl (lv_at hl 0 rfl) ?_
    refine lv_iconst (v := (0 : Int32)) hx hb dX1_sign_32 (by decide) ?_
    obtain ⟨S6, eS6, h⟩ := zb_some h
    refine z_puti X flX1_68 fpX5_2 hH hS eS6 dX1_sign_33 (fun H locs hH hS => ?_)
    refine lv_bipush (v := (24 : Int32)) hx hb dX1_sign_36 (by decide) ?_
    refine lv_istore_n (lv' := [(2, .int (24 : Int32)), (0, .ref x0), (1, .int x1)]) hx hb dX1_sign_38 rfl hl (by decide) rfl (fun ls hl => ?_)
    exact uX1_sign_39 X hA hq hw h _ _ _ hH hS (lv_sub hl [1, 2, 0] rfl)
  · have h := (if_neg c).symm.trans h
    refine lv_iload_n hx hb dX1_sign_13 rfl (lv_at hl 1 rfl) ?_
    refine lv_aload_n hx hb dX1_sign_14 rfl (lv_at hl 0 rfl) ?_
    obtain ⟨v7, ev7, h⟩ := zb_some h
    refine z_getr X flX1_133 hH ev7 dX1_sign_15 ?_
    refine lv_iload_n hx hb dX1_sign_18 rfl (lv_at hl 2 rfl) ?_
    obtain ⟨v8, ev8, h⟩ := zb_some h
    refine z_iald X hH ev8 dX1_sign_19 ?_
    refine lv_ixor hx hb dX1_sign_20 ?_
    refine lv_ldc (v := (16777619 : Int32)) hx hb hown (X.ts _ ctX1_143) dX1_sign_21 ?_
    refine lv_imul hx hb dX1_sign_23 ?_
    refine lv_istore_n (lv' := [(1, .int ((x1 ^^^ v8) * (16777619 : Int32))), (0, .ref x0), (2, .int x2)]) hx hb dX1_sign_24 rfl hl (by decide) rfl (fun ls hl => ?_)
    refine lv_iinc (v := (x2 + (1 : Int32))) (lv' := [(2, .int (x2 + (1 : Int32))), (1, .int ((x1 ^^^ v8) * (16777619 : Int32))), (0, .ref x0)]) hx hb dX1_sign_25 hl (k := 2) rfl (z_ii (by decide) _) (by decide) rfl (fun ls hl => ?_)
    refine lv_goto (tgt := 5) hx hb dX1_sign_28 (by decide) ?_
    exact hK5 _ _ _ _ _ _ _ hq hw h _ _ _ hH hS (lv_sub hl [2, 1, 0] rfl)
set_option maxRecDepth 100000 in
set_option maxHeartbeats 4000000 in
theorem uX1_sign_5 {N : Nat} {MC MS zT : Nat} {T : zS} (X : zX D cy p s m meth c cX1_sign 3 RX1 none) (hA : ∀ q : Nat, s.heap.size ≤ q → A q)  {S : zS} {z : Nat} {x0 : Nat} {x1 : Int32} {x2 : Int32} {q w : Nat} (hq : q + zT ≤ MC + z) (hw : w + 200 * zT ≤ MS + 200 * z) (h : rlX1_sign_5 N S z x0 x1 x2 = some (T, zT)) : zWt D cy A p l e ({ frames := 2, cells := MC, slots := MS, locals := 42 } : Room) s m args below meth c z q w MC MS (zQ D cy A T zT none) S 3 5 [(0, .ref x0), (1, .int x1), (2, .int x2)] [] := by
  unfold rlX1_sign_5 at h
  refine zloop_ind (P := fun y => ∀ (q : Nat) (w : Nat), q + zT ≤ MC + y.2.1 → w + 200 * zT ≤ MS + 200 * y.2.1 → zWt D cy A p l e ({ frames := 2, cells := MC, slots := MS, locals := 42 } : Room) s m args below meth c y.2.1 q w MC MS (zQ D cy A T zT none) y.1 3 5 [(0, .ref y.2.2.1), (1, .int y.2.2.2.1), (2, .int y.2.2.2.2)] []) ?_ N (S, z, x0, x1, x2) h _ _ hq hw
  intro K hK y hy q w hq hw
  obtain ⟨S, z, x0, x1, x2⟩ := y
  exact wX1_sign_5 X hA (fun S z x0 x1 x2 q w hq hw h => hK (S, z, x0, x1, x2) h q w hq hw) hq hw hy
set_option maxRecDepth 100000 in
set_option maxHeartbeats 4000000 in
theorem wX1_sign_0 {N : Nat} {MC MS zT : Nat} {T : zS} (X : zX D cy p s m meth c cX1_sign 3 RX1 none) (hA : ∀ q : Nat, s.heap.size ≤ q → A q)  {S : zS} {z : Nat} {x0 : Nat} {q w : Nat} (hq : q + zT ≤ MC + z) (hw : w + 200 * zT ≤ MS + 200 * z) (h : rX1_sign_0 N S z x0 = some (T, zT)) : zWt D cy A p l e ({ frames := 2, cells := MC, slots := MS, locals := 42 } : Room) s m args below meth c z q w MC MS (zQ D cy A T zT none) S 3 0 [(0, .ref x0)] [] := by
  obtain ⟨hx, hb, hml, hown, hr, hlocks, hT⟩ := id X
  intro H locs ls hH hS hl
  unfold rX1_sign_0 at h
  obtain ⟨h, hz⟩ := zgeV_some h
  refine lv_ldc (v := (40503 : Int32)) hx hb hown (X.ts _ ctX1_142) dX1_sign_0 ?_
  refine lv_istore_n (lv' := [(1, .int (40503 : Int32)), (0, .ref x0)]) hx hb dX1_sign_2 rfl hl (by decide) rfl (fun ls hl => ?_)
  refine lv_iconst (v := (0 : Int32)) hx hb dX1_sign_3 (by decide) ?_
  refine lv_istore_n (lv' := [(2, .int (0 : Int32)), (1, .int (40503 : Int32)), (0, .ref x0)]) hx hb dX1_sign_4 rfl hl (by decide) rfl (fun ls hl => ?_)
  exact uX1_sign_5 X hA hq hw h _ _ _ hH hS (lv_sub hl [2, 1, 0] rfl)
theorem mX1_sign {N : Nat} {zT : Nat} {T : zS} {S : zS} {z : Nat} {x0 : Nat} (h : rX1_sign N S z x0 = some (T, zT)) : z ≤ zT := by
  unfold rX1_sign rX1_sign_0 at h
  exact (zgeV_some h).2
set_option maxRecDepth 100000 in
theorem kX1_sign {N : Nat} {zT : Nat} {T : zS} {S : zS} {z : Nat} {x0 : Nat} (hA0 : ∀ q : Nat, z ≤ q → A q) (h : rX1_sign N S z x0 = some (T, zT)) : Met l yX1_sign [.code yX1_sign cX1_sign 3 none] ({ frames := 2, cells := zT - z, slots := 200 * (zT - z), locals := 42 } : Room) (zP D cy A S z [.ref x0]) (zQ D cy A T zT none) (zT - z) (200 * (zT - z)) A := by
  have hm := mX1_sign h
  refine z_metA (lv := [(0, .ref x0)]) (by decide) (Nat.le_of_ble_eq_true rfl) rfl ?_
  intro p e s m below meth c X hz H locs ls hH hS hl
  exact wX1_sign_0 X (fun q hq => hA0 q (by rw [← hz]; exact hq)) (zz_s hm).1 (zz_s hm).2 h _ _ _ hH hS (lv_sub hl [0] rfl)
set_option maxRecDepth 100000 in
set_option maxHeartbeats 4000000 in
theorem wX1_sort_59 {N : Nat} {MC MS zT : Nat} {T : zS} (X : zX D cy p s m meth c cX1_sort 4 RX1 none) (hA : ∀ q : Nat, s.heap.size ≤ q → A q) {K50 : zS × Nat × Nat × Nat × Int32 → Option (zS × Nat)} (hK50 : ∀ (S : zS) (z : Nat) (x0 : Nat) (x1 : Nat) (x2 : Int32) (q : Nat) (w : Nat), q + zT ≤ MC + z → w + 200 * zT ≤ MS + 200 * z → K50 (S, z, x0, x1, x2) = some (T, zT) → zWt D cy A p l e ({ frames := 2, cells := MC, slots := MS, locals := 42 } : Room) s m args below meth c z q w MC MS (zQ D cy A T zT none) S 4 50 [(0, .ref x0), (1, .ref x1), (2, .int x2)] []) {K59 : zS × Nat × Nat × Nat × Int32 × Int32 → Option (zS × Nat)} (hK59 : ∀ (S : zS) (z : Nat) (x0 : Nat) (x1 : Nat) (x2 : Int32) (x3 : Int32) (q : Nat) (w : Nat), q + zT ≤ MC + z → w + 200 * zT ≤ MS + 200 * z → K59 (S, z, x0, x1, x2, x3) = some (T, zT) → zWt D cy A p l e ({ frames := 2, cells := MC, slots := MS, locals := 42 } : Room) s m args below meth c z q w MC MS (zQ D cy A T zT none) S 4 59 [(0, .ref x0), (1, .ref x1), (2, .int x2), (3, .int x3)] []) {S : zS} {z : Nat} {x0 : Nat} {x1 : Nat} {x2 : Int32} {x3 : Int32} {q w : Nat} (hq : q + zT ≤ MC + z) (hw : w + 200 * zT ≤ MS + 200 * z) (h : rX1_sort_59 N K50 K59 S z x0 x1 x2 x3 = some (T, zT)) : zWt D cy A p l e ({ frames := 2, cells := MC, slots := MS, locals := 42 } : Room) s m args below meth c z q w MC MS (zQ D cy A T zT none) S 4 59 [(0, .ref x0), (1, .ref x1), (2, .int x2), (3, .int x3)] [] := by
  obtain ⟨hx, hb, hml, hown, hr, hlocks, hT⟩ := id X
  intro H locs ls hH hS hl
  unfold rX1_sort_59 at h
  obtain ⟨h, hz⟩ := zgeV_some h
  refine lv_iload_n hx hb dX1_sort_59 rfl (lv_at hl 3 rfl) ?_
  refine lv_aload_n hx hb dX1_sort_60 rfl (lv_at hl 0 rfl) ?_
  obtain ⟨v1, ev1, h⟩ := zb_some h
  refine z_getr X flX1_25 hH ev1 dX1_sort_61 ?_
  refine lv_iload_n hx hb dX1_sort_64 rfl (lv_at hl 2 rfl) ?_
  obtain ⟨v2, ev2, h⟩ := zb_some h
  refine z_iald X hH ev2 dX1_sort_65 ?_
  refine lv_icmp_ge (tgt := 81) hx hb dX1_sort_66 (by decide) (fun c => ?_) (fun c => ?_)
  · have h := (if_pos c).symm.trans h
    refine lv_iinc (v := (x2 + (1 : Int32))) (lv' := [(2, .int (x2 + (1 : Int32))), (0, .ref x0), (1, .ref x1), (3, .int x3)]) hx hb dX1_sort_81 hl (k := 2) rfl (z_ii (by decide) _) (by decide) rfl (fun ls hl => ?_)
    refine lv_goto (tgt := 50) hx hb dX1_sort_84 (by decide) ?_
    exact hK50 _ _ _ _ _ _ _ hq hw h _ _ _ hH hS (lv_sub hl [1, 2, 0] rfl)
  · have h := (if_neg c).symm.trans h
    refine lv_aload_n hx hb dX1_sort_69 rfl (lv_at hl 1 rfl) ?_
    refine lv_iload_n hx hb dX1_sort_70 rfl (lv_at hl 2 rfl) ?_
    obtain ⟨u3, eu3, h⟩ := zb_some h
    obtain ⟨v6, S4, z5, eS4, h⟩ := zb3_some h
    obtain ⟨h, hzz5⟩ := zgeV_some h
    have hmz5 := mX5_put eS4
    refine z_cV (As := [.int x2]) X hl hH hS mlX1_116 eu3 (kX5_put (fun q h => hA q (Nat.le_trans (Nat.le_trans hS.1.1 (Nat.le_of_eq hS.2)) h)) eS4) rfl rfl (Nat.le_of_ble_eq_true rfl) ⟨rfl, rfl, Nat.le_of_ble_eq_true rfl, Nat.le_of_ble_eq_true rfl⟩ (zz_f hq hw hmz5 hzz5) dX1_sort_71 (fun H locs hH hS => ?_)
    obtain ⟨hq, hw⟩ := zz_q hq hw hmz5
    have hz := hzz5
    refine lv_pop hx hb dX1_sort_74 rfl ?_
    refine lv_iinc (v := (x3 + (1 : Int32))) (lv' := [(3, .int (x3 + (1 : Int32))), (0, .ref x0), (1, .ref x1), (2, .int x2)]) hx hb dX1_sort_75 hl (k := 3) rfl (z_ii (by decide) _) (by decide) rfl (fun ls hl => ?_)
    refine lv_goto (tgt := 59) hx hb dX1_sort_78 (by decide) ?_
    exact hK59 _ _ _ _ _ _ _ _ hq hw h _ _ _ hH hS (lv_sub hl [1, 2, 3, 0] rfl)
set_option maxRecDepth 100000 in
set_option maxHeartbeats 4000000 in
theorem uX1_sort_59 {N : Nat} {MC MS zT : Nat} {T : zS} (X : zX D cy p s m meth c cX1_sort 4 RX1 none) (hA : ∀ q : Nat, s.heap.size ≤ q → A q) {K50 : zS × Nat × Nat × Nat × Int32 → Option (zS × Nat)} (hK50 : ∀ (S : zS) (z : Nat) (x0 : Nat) (x1 : Nat) (x2 : Int32) (q : Nat) (w : Nat), q + zT ≤ MC + z → w + 200 * zT ≤ MS + 200 * z → K50 (S, z, x0, x1, x2) = some (T, zT) → zWt D cy A p l e ({ frames := 2, cells := MC, slots := MS, locals := 42 } : Room) s m args below meth c z q w MC MS (zQ D cy A T zT none) S 4 50 [(0, .ref x0), (1, .ref x1), (2, .int x2)] []) {S : zS} {z : Nat} {x0 : Nat} {x1 : Nat} {x2 : Int32} {x3 : Int32} {q w : Nat} (hq : q + zT ≤ MC + z) (hw : w + 200 * zT ≤ MS + 200 * z) (h : rlX1_sort_59 N K50 S z x0 x1 x2 x3 = some (T, zT)) : zWt D cy A p l e ({ frames := 2, cells := MC, slots := MS, locals := 42 } : Room) s m args below meth c z q w MC MS (zQ D cy A T zT none) S 4 59 [(0, .ref x0), (1, .ref x1), (2, .int x2), (3, .int x3)] [] := by
  unfold rlX1_sort_59 at h
  refine zloop_ind (P := fun y => ∀ (q : Nat) (w : Nat), q + zT ≤ MC + y.2.1 → w + 200 * zT ≤ MS + 200 * y.2.1 → zWt D cy A p l e ({ frames := 2, cells := MC, slots := MS, locals := 42 } : Room) s m args below meth c y.2.1 q w MC MS (zQ D cy A T zT none) y.1 4 59 [(0, .ref y.2.2.1), (1, .ref y.2.2.2.1), (2, .int y.2.2.2.2.1), (3, .int y.2.2.2.2.2)] []) ?_ N (S, z, x0, x1, x2, x3) h _ _ hq hw
  intro K hK y hy q w hq hw
  obtain ⟨S, z, x0, x1, x2, x3⟩ := y
  exact wX1_sort_59 X hA hK50 (fun S z x0 x1 x2 x3 q w hq hw h => hK (S, z, x0, x1, x2, x3) h q w hq hw) hq hw hy
set_option maxRecDepth 100000 in
set_option maxHeartbeats 4000000 in
theorem wX1_sort_50 {N : Nat} {MC MS zT : Nat} {T : zS} (X : zX D cy p s m meth c cX1_sort 4 RX1 none) (hA : ∀ q : Nat, s.heap.size ≤ q → A q) {K50 : zS × Nat × Nat × Nat × Int32 → Option (zS × Nat)} (hK50 : ∀ (S : zS) (z : Nat) (x0 : Nat) (x1 : Nat) (x2 : Int32) (q : Nat) (w : Nat), q + zT ≤ MC + z → w + 200 * zT ≤ MS + 200 * z → K50 (S, z, x0, x1, x2) = some (T, zT) → zWt D cy A p l e ({ frames := 2, cells := MC, slots := MS, locals := 42 } : Room) s m args below meth c z q w MC MS (zQ D cy A T zT none) S 4 50 [(0, .ref x0), (1, .ref x1), (2, .int x2)] []) {S : zS} {z : Nat} {x0 : Nat} {x1 : Nat} {x2 : Int32} {q w : Nat} (hq : q + zT ≤ MC + z) (hw : w + 200 * zT ≤ MS + 200 * z) (h : rX1_sort_50 N K50 S z x0 x1 x2 = some (T, zT)) : zWt D cy A p l e ({ frames := 2, cells := MC, slots := MS, locals := 42 } : Room) s m args below meth c z q w MC MS (zQ D cy A T zT none) S 4 50 [(0, .ref x0), (1, .ref x1), (2, .int x2)] [] := by
  obtain ⟨hx, hb, hml, hown, hr, hlocks, hT⟩ := id X
  intro H locs ls hH hS hl
  unfold rX1_sort_50 at h
  obtain ⟨h, hz⟩ := zgeV_some h
  refine lv_iload_n hx hb dX1_sort_50 rfl (lv_at hl 2 rfl) ?_
  refine lv_sipush (v := (255 : Int32)) hx hb dX1_sort_51 (by decide) ?_
  refine lv_icmp_gt (tgt := 87) hx hb dX1_sort_54 (by decide) (fun c => ?_) (fun c => ?_)
  · have h := (if_pos c).symm.trans h
    exact z_vretZ X hH hS h hq hw dX1_sort_87
  · have h := (if_neg c).symm.trans h
    refine lv_iconst (v := (0 : Int32)) hx hb dX1_sort_57 (by decide) ?_
    refine lv_istore_n (lv' := [(3, .int (0 : Int32)), (0, .ref x0), (1, .ref x1), (2, .int x2)]) hx hb dX1_sort_58 rfl hl (by decide) rfl (fun ls hl => ?_)
    exact uX1_sort_59 X hA hK50 hq hw h _ _ _ hH hS (lv_sub hl [1, 2, 3, 0] rfl)
set_option maxRecDepth 100000 in
set_option maxHeartbeats 4000000 in
theorem uX1_sort_50 {N : Nat} {MC MS zT : Nat} {T : zS} (X : zX D cy p s m meth c cX1_sort 4 RX1 none) (hA : ∀ q : Nat, s.heap.size ≤ q → A q)  {S : zS} {z : Nat} {x0 : Nat} {x1 : Nat} {x2 : Int32} {q w : Nat} (hq : q + zT ≤ MC + z) (hw : w + 200 * zT ≤ MS + 200 * z) (h : rlX1_sort_50 N S z x0 x1 x2 = some (T, zT)) : zWt D cy A p l e ({ frames := 2, cells := MC, slots := MS, locals := 42 } : Room) s m args below meth c z q w MC MS (zQ D cy A T zT none) S 4 50 [(0, .ref x0), (1, .ref x1), (2, .int x2)] [] := by
  unfold rlX1_sort_50 at h
  refine zloop_ind (P := fun y => ∀ (q : Nat) (w : Nat), q + zT ≤ MC + y.2.1 → w + 200 * zT ≤ MS + 200 * y.2.1 → zWt D cy A p l e ({ frames := 2, cells := MC, slots := MS, locals := 42 } : Room) s m args below meth c y.2.1 q w MC MS (zQ D cy A T zT none) y.1 4 50 [(0, .ref y.2.2.1), (1, .ref y.2.2.2.1), (2, .int y.2.2.2.2)] []) ?_ N (S, z, x0, x1, x2) h _ _ hq hw
  intro K hK y hy q w hq hw
  obtain ⟨S, z, x0, x1, x2⟩ := y
  exact wX1_sort_50 X hA (fun S z x0 x1 x2 q w hq hw h => hK (S, z, x0, x1, x2) h q w hq hw) hq hw hy
set_option maxRecDepth 100000 in
set_option maxHeartbeats 4000000 in
theorem wX1_sort_10 {N : Nat} {MC MS zT : Nat} {T : zS} (X : zX D cy p s m meth c cX1_sort 4 RX1 none) (hA : ∀ q : Nat, s.heap.size ≤ q → A q) {K10 : zS × Nat × Nat × Nat × Int32 → Option (zS × Nat)} (hK10 : ∀ (S : zS) (z : Nat) (x0 : Nat) (x1 : Nat) (x2 : Int32) (q : Nat) (w : Nat), q + zT ≤ MC + z → w + 200 * zT ≤ MS + 200 * z → K10 (S, z, x0, x1, x2) = some (T, zT) → zWt D cy A p l e ({ frames := 2, cells := MC, slots := MS, locals := 42 } : Room) s m args below meth c z q w MC MS (zQ D cy A T zT none) S 4 10 [(0, .ref x0), (1, .ref x1), (2, .int x2)] []) {S : zS} {z : Nat} {x0 : Nat} {x1 : Nat} {x2 : Int32} {q w : Nat} (hq : q + zT ≤ MC + z) (hw : w + 200 * zT ≤ MS + 200 * z) (h : rX1_sort_10 N K10 S z x0 x1 x2 = some (T, zT)) : zWt D cy A p l e ({ frames := 2, cells := MC, slots := MS, locals := 42 } : Room) s m args below meth c z q w MC MS (zQ D cy A T zT none) S 4 10 [(0, .ref x0), (1, .ref x1), (2, .int x2)] [] := by
  obtain ⟨hx, hb, hml, hown, hr, hlocks, hT⟩ := id X
  intro H locs ls hH hS hl
  unfold rX1_sort_10 at h
  obtain ⟨h, hz⟩ := zgeV_some h
  refine lv_iload_n hx hb dX1_sort_10 rfl (lv_at hl 2 rfl) ?_
  refine lv_aload_n hx hb dX1_sort_11 rfl (lv_at hl 1 rfl) ?_
  obtain ⟨v7, ev7, h⟩ := zb_some h
  refine z_geti X flX1_68 hH ev7 dX1_sort_12 ?_
  refine lv_icmp_ge (tgt := 43) hx hb dX1_sort_15 (by decide) (fun c => ?_) (fun c => ?_)
  · have h := (if_pos c).symm.trans h
    refine lv_aload_n hx hb dX1_sort_43 rfl (lv_at hl 1 rfl) ?_
    refine lv_iconst (v := (0 : Int32)) hx hb dX1_sort_44 (by decide) ?_
    obtain ⟨S8, eS8, h⟩ := zb_some h
    refine z_puti X flX1_68 fpX5_2 hH hS eS8 dX1_sort_45 (fun H locs hH hS => ?_)
    refine lv_iconst (v := (0 : Int32)) hx hb dX1_sort_48 (by decide) ?_
    refine lv_istore_n (lv' := [(2, .int (0 : Int32)), (0, .ref x0), (1, .ref x1)]) hx hb dX1_sort_49 rfl hl (by decide) rfl (fun ls hl => ?_)
    exact uX1_sort_50 X hA hq hw h _ _ _ hH hS (lv_sub hl [1, 2, 0] rfl)
  · have h := (if_neg c).symm.trans h
    refine lv_aload_n hx hb dX1_sort_18 rfl (lv_at hl 0 rfl) ?_
    obtain ⟨v9, ev9, h⟩ := zb_some h
    refine z_getr X flX1_25 hH ev9 dX1_sort_19 ?_
    refine lv_aload_n hx hb dX1_sort_22 rfl (lv_at hl 1 rfl) ?_
    obtain ⟨v10, ev10, h⟩ := zb_some h
    refine z_getr X flX1_133 hH ev10 dX1_sort_23 ?_
    refine lv_iload_n hx hb dX1_sort_26 rfl (lv_at hl 2 rfl) ?_
    obtain ⟨v11, ev11, h⟩ := zb_some h
    refine z_iald X hH ev11 dX1_sort_27 ?_
    refine lv_sipush (v := (255 : Int32)) hx hb dX1_sort_28 (by decide) ?_
    refine lv_iand hx hb dX1_sort_31 ?_
    refine lv_dup2_11 hx hb dX1_sort_32 rfl rfl ?_
    obtain ⟨v12, ev12, h⟩ := zb_some h
    refine z_iald X hH ev12 dX1_sort_33 ?_
    refine lv_iconst (v := (1 : Int32)) hx hb dX1_sort_34 (by decide) ?_
    refine lv_iadd hx hb dX1_sort_35 ?_
    obtain ⟨S13, eS13, h⟩ := zb_some h
    refine z_iast X hH hS eS13 dX1_sort_36 (fun H locs hH hS => ?_)
    refine lv_iinc (v := (x2 + (1 : Int32))) (lv' := [(2, .int (x2 + (1 : Int32))), (0, .ref x0), (1, .ref x1)]) hx hb dX1_sort_37 hl (k := 2) rfl (z_ii (by decide) _) (by decide) rfl (fun ls hl => ?_)
    refine lv_goto (tgt := 10) hx hb dX1_sort_40 (by decide) ?_
    exact hK10 _ _ _ _ _ _ _ hq hw h _ _ _ hH hS (lv_sub hl [1, 2, 0] rfl)
set_option maxRecDepth 100000 in
set_option maxHeartbeats 4000000 in
theorem uX1_sort_10 {N : Nat} {MC MS zT : Nat} {T : zS} (X : zX D cy p s m meth c cX1_sort 4 RX1 none) (hA : ∀ q : Nat, s.heap.size ≤ q → A q)  {S : zS} {z : Nat} {x0 : Nat} {x1 : Nat} {x2 : Int32} {q w : Nat} (hq : q + zT ≤ MC + z) (hw : w + 200 * zT ≤ MS + 200 * z) (h : rlX1_sort_10 N S z x0 x1 x2 = some (T, zT)) : zWt D cy A p l e ({ frames := 2, cells := MC, slots := MS, locals := 42 } : Room) s m args below meth c z q w MC MS (zQ D cy A T zT none) S 4 10 [(0, .ref x0), (1, .ref x1), (2, .int x2)] [] := by
  unfold rlX1_sort_10 at h
  refine zloop_ind (P := fun y => ∀ (q : Nat) (w : Nat), q + zT ≤ MC + y.2.1 → w + 200 * zT ≤ MS + 200 * y.2.1 → zWt D cy A p l e ({ frames := 2, cells := MC, slots := MS, locals := 42 } : Room) s m args below meth c y.2.1 q w MC MS (zQ D cy A T zT none) y.1 4 10 [(0, .ref y.2.2.1), (1, .ref y.2.2.2.1), (2, .int y.2.2.2.2)] []) ?_ N (S, z, x0, x1, x2) h _ _ hq hw
  intro K hK y hy q w hq hw
  obtain ⟨S, z, x0, x1, x2⟩ := y
  exact wX1_sort_10 X hA (fun S z x0 x1 x2 q w hq hw h => hK (S, z, x0, x1, x2) h q w hq hw) hq hw hy
set_option maxRecDepth 100000 in
set_option maxHeartbeats 4000000 in
theorem wX1_sort_0 {N : Nat} {MC MS zT : Nat} {T : zS} (X : zX D cy p s m meth c cX1_sort 4 RX1 none) (hA : ∀ q : Nat, s.heap.size ≤ q → A q)  {S : zS} {z : Nat} {x0 : Nat} {x1 : Nat} {q w : Nat} (hq : q + zT ≤ MC + z) (hw : w + 200 * zT ≤ MS + 200 * z) (h : rX1_sort_0 N S z x0 x1 = some (T, zT)) : zWt D cy A p l e ({ frames := 2, cells := MC, slots := MS, locals := 42 } : Room) s m args below meth c z q w MC MS (zQ D cy A T zT none) S 4 0 [(0, .ref x0), (1, .ref x1)] [] := by
  obtain ⟨hx, hb, hml, hown, hr, hlocks, hT⟩ := id X
  intro H locs ls hH hS hl
  unfold rX1_sort_0 at h
  obtain ⟨h, hz⟩ := zgeV_some h
  refine lv_aload_n hx hb dX1_sort_0 rfl (lv_at hl 0 rfl) ?_
  obtain ⟨v14, ev14, h⟩ := zb_some h
  refine z_getr X flX1_25 hH ev14 dX1_sort_1 ?_
  refine lv_iconst (v := (0 : Int32)) hx hb dX1_sort_4 (by decide) ?_
  obtain ⟨S15, eS15, h⟩ := zb_some h
  refine z_cS (As := [.ref v14, .int (0 : Int32)]) X hl hH hS mlX1_136 (kJ7_fill_53178 eS15) rfl rfl (Nat.le_of_ble_eq_true rfl) ⟨rfl, rfl, Nat.le_of_ble_eq_true rfl, Nat.le_of_ble_eq_true rfl⟩ (zz_0 hq hw hz) dX1_sort_5 (fun H locs hH hS => ?_)
  refine lv_iconst (v := (0 : Int32)) hx hb dX1_sort_8 (by decide) ?_
  refine lv_istore_n (lv' := [(2, .int (0 : Int32)), (0, .ref x0), (1, .ref x1)]) hx hb dX1_sort_9 rfl hl (by decide) rfl (fun ls hl => ?_)
  exact uX1_sort_10 X hA hq hw h _ _ _ hH hS (lv_sub hl [1, 2, 0] rfl)
theorem mX1_sort {N : Nat} {zT : Nat} {T : zS} {S : zS} {z : Nat} {x0 : Nat} {x1 : Nat} (h : rX1_sort N S z x0 x1 = some (T, zT)) : z ≤ zT := by
  unfold rX1_sort rX1_sort_0 at h
  exact (zgeV_some h).2
set_option maxRecDepth 100000 in
theorem kX1_sort {N : Nat} {zT : Nat} {T : zS} {S : zS} {z : Nat} {x0 : Nat} {x1 : Nat} (hA0 : ∀ q : Nat, z ≤ q → A q) (h : rX1_sort N S z x0 x1 = some (T, zT)) : Met l yX1_sort [.code yX1_sort cX1_sort 4 none] ({ frames := 2, cells := zT - z, slots := 200 * (zT - z), locals := 42 } : Room) (zP D cy A S z [.ref x0, .ref x1]) (zQ D cy A T zT none) (zT - z) (200 * (zT - z)) A := by
  have hm := mX1_sort h
  refine z_metA (lv := [(0, .ref x0), (1, .ref x1)]) (by decide) (Nat.le_of_ble_eq_true rfl) rfl ?_
  intro p e s m below meth c X hz H locs ls hH hS hl
  exact wX1_sort_0 X (fun q hq => hA0 q (by rw [← hz]; exact hq)) (zz_s hm).1 (zz_s hm).2 h _ _ _ hH hS (lv_sub hl [0, 1] rfl)
set_option maxRecDepth 100000 in
set_option maxHeartbeats 4000000 in
theorem wX1_strip_37 {z : Nat} {N : Nat} {T : zS} (X : zX D cy p s m meth c cX1_strip 4 RX1 none) {K4 : zS × Nat × Int32 × Int32 × Int32 → Option (zS)} (hK4 : ∀ (S : zS) (x0 : Nat) (x1 : Int32) (x2 : Int32) (x3 : Int32), K4 (S, x0, x1, x2, x3) = some T → zWt D cy A p l e { frames := 0, cells := 0, slots := 0, locals := 0 } s m args below meth c z 0 0 0 0 (zQ D cy A T z none) S 4 4 [(0, .ref x0), (1, .int x1), (2, .int x2), (3, .int x3)] []) {S : zS} {x0 : Nat} {x1 : Int32} {x2 : Int32} {x3 : Int32} (h : rX1_strip_37 N K4 S x0 x1 x2 x3 = some T) : zWt D cy A p l e { frames := 0, cells := 0, slots := 0, locals := 0 } s m args below meth c z 0 0 0 0 (zQ D cy A T z none) S 4 37 [(0, .ref x0), (1, .int x1), (2, .int x2), (3, .int x3)] [] := by
  obtain ⟨hx, hb, hml, hown, hr, hlocks, hT⟩ := id X
  intro H locs ls hH hS hl
  unfold rX1_strip_37 at h
  refine lv_iinc (v := (x3 + (1 : Int32))) (lv' := [(3, .int (x3 + (1 : Int32))), (0, .ref x0), (1, .int x1), (2, .int x2)]) hx hb dX1_strip_37 hl (k := 3) rfl (z_ii (by decide) _) (by decide) rfl (fun ls hl => ?_)
  refine lv_goto (tgt := 4) hx hb dX1_strip_40 (by decide) ?_
  exact hK4 _ _ _ _ _ h _ _ _ hH hS (lv_sub hl [1, 2, 3, 0] rfl)
set_option maxRecDepth 100000 in
set_option maxHeartbeats 4000000 in
theorem wX1_strip_4 {z : Nat} {N : Nat} {T : zS} (X : zX D cy p s m meth c cX1_strip 4 RX1 none) {K4 : zS × Nat × Int32 × Int32 × Int32 → Option (zS)} (hK4 : ∀ (S : zS) (x0 : Nat) (x1 : Int32) (x2 : Int32) (x3 : Int32), K4 (S, x0, x1, x2, x3) = some T → zWt D cy A p l e { frames := 0, cells := 0, slots := 0, locals := 0 } s m args below meth c z 0 0 0 0 (zQ D cy A T z none) S 4 4 [(0, .ref x0), (1, .int x1), (2, .int x2), (3, .int x3)] []) {S : zS} {x0 : Nat} {x1 : Int32} {x2 : Int32} {x3 : Int32} (h : rX1_strip_4 N K4 S x0 x1 x2 x3 = some T) : zWt D cy A p l e { frames := 0, cells := 0, slots := 0, locals := 0 } s m args below meth c z 0 0 0 0 (zQ D cy A T z none) S 4 4 [(0, .ref x0), (1, .int x1), (2, .int x2), (3, .int x3)] [] := by
  obtain ⟨hx, hb, hml, hown, hr, hlocks, hT⟩ := id X
  intro H locs ls hH hS hl
  unfold rX1_strip_4 at h
  refine lv_iload_n hx hb dX1_strip_4 rfl (lv_at hl 3 rfl) ?_
  refine lv_aload_n hx hb dX1_strip_5 rfl (lv_at hl 0 rfl) ?_
  obtain ⟨v1, ev1, h⟩ := zb_some h
  refine z_geti X flX1_68 hH ev1 dX1_strip_6 ?_
  refine lv_icmp_ge (tgt := 43) hx hb dX1_strip_9 (by decide) (fun c => ?_) (fun c => ?_)
  · have h := (if_pos c).symm.trans h
    refine lv_aload_n hx hb dX1_strip_43 rfl (lv_at hl 0 rfl) ?_
    refine lv_iload_n hx hb dX1_strip_44 rfl (lv_at hl 2 rfl) ?_
    obtain ⟨S2, eS2, h⟩ := zb_some h
    refine z_puti X flX1_68 fpX5_2 hH hS eS2 dX1_strip_45 (fun H locs hH hS => ?_)
    exact z_vret X hH hS h dX1_strip_48
  · have h := (if_neg c).symm.trans h
    refine lv_aload_n hx hb dX1_strip_12 rfl (lv_at hl 0 rfl) ?_
    obtain ⟨v3, ev3, h⟩ := zb_some h
    refine z_getr X flX1_133 hH ev3 dX1_strip_13 ?_
    refine lv_iload_n hx hb dX1_strip_16 rfl (lv_at hl 3 rfl) ?_
    obtain ⟨v4, ev4, h⟩ := zb_some h
    refine z_iald X hH ev4 dX1_strip_17 ?_
    refine lv_iload_n hx hb dX1_strip_18 rfl (lv_at hl 1 rfl) ?_
    refine lv_icmp_eq (tgt := 37) hx hb dX1_strip_19 (by decide) (fun c => ?_) (fun c => ?_)
    · have h := (if_pos c).symm.trans h
      exact wX1_strip_37 X hK4 h _ _ _ hH hS (lv_sub hl [0, 1, 2, 3] rfl)
    · have h := (if_neg c).symm.trans h
      refine lv_aload_n hx hb dX1_strip_22 rfl (lv_at hl 0 rfl) ?_
      obtain ⟨v5, ev5, h⟩ := zb_some h
      refine z_getr X flX1_133 hH ev5 dX1_strip_23 ?_
      refine lv_iload_n hx hb dX1_strip_26 rfl (lv_at hl 2 rfl) ?_
      refine lv_aload_n hx hb dX1_strip_27 rfl (lv_at hl 0 rfl) ?_
      obtain ⟨v6, ev6, h⟩ := zb_some h
      refine z_getr X flX1_133 hH ev6 dX1_strip_28 ?_
      refine lv_iload_n hx hb dX1_strip_31 rfl (lv_at hl 3 rfl) ?_
      obtain ⟨v7, ev7, h⟩ := zb_some h
      refine z_iald X hH ev7 dX1_strip_32 ?_
      obtain ⟨S8, eS8, h⟩ := zb_some h
      refine z_iast X hH hS eS8 dX1_strip_33 (fun H locs hH hS => ?_)
      refine lv_iinc (v := (x2 + (1 : Int32))) (lv' := [(2, .int (x2 + (1 : Int32))), (0, .ref x0), (1, .int x1), (3, .int x3)]) hx hb dX1_strip_34 hl (k := 2) rfl (z_ii (by decide) _) (by decide) rfl (fun ls hl => ?_)
      exact wX1_strip_37 X hK4 h _ _ _ hH hS (lv_sub hl [1, 2, 0, 3] rfl)
set_option maxRecDepth 100000 in
set_option maxHeartbeats 4000000 in
theorem uX1_strip_4 {z : Nat} {N : Nat} {T : zS} (X : zX D cy p s m meth c cX1_strip 4 RX1 none)  {S : zS} {x0 : Nat} {x1 : Int32} {x2 : Int32} {x3 : Int32} (h : rlX1_strip_4 N S x0 x1 x2 x3 = some T) : zWt D cy A p l e { frames := 0, cells := 0, slots := 0, locals := 0 } s m args below meth c z 0 0 0 0 (zQ D cy A T z none) S 4 4 [(0, .ref x0), (1, .int x1), (2, .int x2), (3, .int x3)] [] := by
  unfold rlX1_strip_4 at h
  refine zloop_ind (P := fun y => zWt D cy A p l e { frames := 0, cells := 0, slots := 0, locals := 0 } s m args below meth c z 0 0 0 0 (zQ D cy A T z none) y.1 4 4 [(0, .ref y.2.1), (1, .int y.2.2.1), (2, .int y.2.2.2.1), (3, .int y.2.2.2.2)] []) ?_ N (S, x0, x1, x2, x3) h
  intro K hK y hy
  obtain ⟨S, x0, x1, x2, x3⟩ := y
  exact wX1_strip_4 X (fun S x0 x1 x2 x3 hq => hK (S, x0, x1, x2, x3) hq) hy
set_option maxRecDepth 100000 in
set_option maxHeartbeats 4000000 in
theorem wX1_strip_0 {z : Nat} {N : Nat} {T : zS} (X : zX D cy p s m meth c cX1_strip 4 RX1 none)  {S : zS} {x0 : Nat} {x1 : Int32} (h : rX1_strip_0 N S x0 x1 = some T) : zWt D cy A p l e { frames := 0, cells := 0, slots := 0, locals := 0 } s m args below meth c z 0 0 0 0 (zQ D cy A T z none) S 4 0 [(0, .ref x0), (1, .int x1)] [] := by
  obtain ⟨hx, hb, hml, hown, hr, hlocks, hT⟩ := id X
  intro H locs ls hH hS hl
  unfold rX1_strip_0 at h
  refine lv_iconst (v := (0 : Int32)) hx hb dX1_strip_0 (by decide) ?_
  refine lv_istore_n (lv' := [(2, .int (0 : Int32)), (0, .ref x0), (1, .int x1)]) hx hb dX1_strip_1 rfl hl (by decide) rfl (fun ls hl => ?_)
  refine lv_iconst (v := (0 : Int32)) hx hb dX1_strip_2 (by decide) ?_
  refine lv_istore_n (lv' := [(3, .int (0 : Int32)), (2, .int (0 : Int32)), (0, .ref x0), (1, .int x1)]) hx hb dX1_strip_3 rfl hl (by decide) rfl (fun ls hl => ?_)
  exact uX1_strip_4 X h _ _ _ hH hS (lv_sub hl [2, 3, 1, 0] rfl)
set_option maxRecDepth 100000 in
theorem kX1_strip {N : Nat} {T : zS} {S : zS} {z : Nat} {x0 : Nat} {x1 : Int32} (h : rX1_strip N S x0 x1 = some T) : Met l yX1_strip [.code yX1_strip cX1_strip 4 none] { frames := 0, cells := 0, slots := 0, locals := 0 } (zP D cy A S z [.ref x0, .int x1]) (zQ D cy A T z none) 0 0 A := by
  refine z_met (lv := [(0, .ref x0), (1, .int x1)]) (by decide) (Nat.le_of_ble_eq_true rfl) rfl ?_
  intro p e s m below meth c X H locs ls hH hS hl
  exact wX1_strip_0 X h _ _ _ hH hS (lv_sub hl [0, 1] rfl)
set_option maxRecDepth 100000 in
set_option maxHeartbeats 4000000 in
theorem wX1_runTool_180 {N : Nat} {MC MS zT : Nat} {r : Int32} {T : zS} (X : zX D cy p s m meth c cX1_runTool 6 RX1 (some .boolean)) (hA : ∀ q : Nat, s.heap.size ≤ q → A q)  {S : zS} {z : Nat} {q w : Nat} (hq : q + zT ≤ MC + z) (hw : w + 200 * zT ≤ MS + 200 * z) (h : rX1_runTool_180 N S z = some (r, T, zT)) : zWt D cy A p l e ({ frames := 3, cells := MC, slots := MS, locals := 70 } : Room) s m args below meth c z q w MC MS (zQ D cy A T zT (some (.int r))) S 6 180 [] [] := by
  obtain ⟨hx, hb, hml, hown, hr, hlocks, hT⟩ := id X
  intro H locs ls hH hS hl
  unfold rX1_runTool_180 at h
  obtain ⟨h, hz⟩ := zgeI_some h
  refine lv_iconst (v := (1 : Int32)) hx hb dX1_runTool_180 (by decide) ?_
  exact z_zretZ X hH hS h hq hw dX1_runTool_181
set_option maxRecDepth 100000 in
set_option maxHeartbeats 4000000 in
theorem wX1_runTool_94 {N : Nat} {MC MS zT : Nat} {r : Int32} {T : zS} (X : zX D cy p s m meth c cX1_runTool 6 RX1 (some .boolean)) (hA : ∀ q : Nat, s.heap.size ≤ q → A q)  {S : zS} {z : Nat} {x0 : Nat} {x2 : Nat} {x3 : Int32} {x4 : Int32} {x5 : Int32} {y0 : Nat} {y1 : Int32} {y2 : Nat} {y3 : Int32} {q w : Nat} (hq : q + zT ≤ MC + z) (hw : w + 200 * zT ≤ MS + 200 * z) (h : rX1_runTool_94 N S z x0 x2 x3 x4 x5 y0 y1 y2 y3 = some (r, T, zT)) : zWt D cy A p l e ({ frames := 3, cells := MC, slots := MS, locals := 70 } : Room) s m args below meth c z q w MC MS (zQ D cy A T zT (some (.int r))) S 6 94 [(0, .ref x0), (2, .ref x2), (3, .int x3), (4, .int x4), (5, .int x5)] [.int y3, .ref y2, .int y1, .ref y0] := by
  obtain ⟨hx, hb, hml, hown, hr, hlocks, hT⟩ := id X
  intro H locs ls hH hS hl
  unfold rX1_runTool_94 at h
  obtain ⟨h, hz⟩ := zgeI_some h
  obtain ⟨u1, eu1, h⟩ := zb_some h
  obtain ⟨v4, S2, z3, eS2, h⟩ := zb3_some h
  obtain ⟨h, hzz3⟩ := zgeI_some h
  have hmz3 := mX1_join eS2
  refine z_cV (As := [.int y1, .ref y2, .int y3]) X hl hH hS mlX1_112 eu1 (kX1_join (fun q h => hA q (Nat.le_trans (Nat.le_trans hS.1.1 (Nat.le_of_eq hS.2)) h)) eS2) rfl rfl (Nat.le_of_ble_eq_true rfl) ⟨rfl, rfl, Nat.le_of_ble_eq_true rfl, Nat.le_of_ble_eq_true rfl⟩ (zz_f hq hw hmz3 hzz3) dX1_runTool_94 (fun H locs hH hS => ?_)
  obtain ⟨hq, hw⟩ := zz_q hq hw hmz3
  have hz := hzz3
  refine lv_if_ne (tgt := 102) hx hb dX1_runTool_97 (by decide) (fun c => ?_) (fun c => ?_)
  · have h := (if_neg c).symm.trans h
    refine lv_iload_n hx hb dX1_runTool_102 rfl (lv_at hl 2 rfl) ?_
    by_cases c1 : x3 = (1 : Int32)
    · have h := (if_pos c1).symm.trans h
      refine lv_tableIn (tgt := 144) hx hb dX1_runTool_103 (by rw [c1]; decide) (by rw [c1]; decide) (by rw [c1]; rfl) (by decide) ?_
      refine lv_aload_n hx hb dX1_runTool_144 rfl (lv_at hl 1 rfl) ?_
      refine lv_iload hx hb dX1_runTool_145 (lv_at hl 4 rfl) ?_
      obtain ⟨u5, eu5, h⟩ := zb_some h
      obtain ⟨v8, S6, z7, eS6, h⟩ := zb3_some h
      obtain ⟨h, hzz7⟩ := zgeI_some h
      have hmz7 := mX5_put eS6
      refine z_cV (As := [.int x5]) X hl hH hS mlX1_116 eu5 (kX5_put (fun q h => hA q (Nat.le_trans (Nat.le_trans hS.1.1 (Nat.le_of_eq hS.2)) h)) eS6) rfl rfl (Nat.le_of_ble_eq_true rfl) ⟨rfl, rfl, Nat.le_of_ble_eq_true rfl, Nat.le_of_ble_eq_true rfl⟩ (zz_f hq hw hmz7 hzz7) dX1_runTool_147 (fun H locs hH hS => ?_)
      obtain ⟨hq, hw⟩ := zz_q hq hw hmz7
      have hz := hzz7
      exact z_zretZ X hH hS h hq hw dX1_runTool_150
    have h := (if_neg c1).symm.trans h
    by_cases c2 : x3 = (2 : Int32)
    · have h := (if_pos c2).symm.trans h
      refine lv_tableIn (tgt := 180) hx hb dX1_runTool_103 (by rw [c2]; decide) (by rw [c2]; decide) (by rw [c2]; rfl) (by decide) ?_
      exact wX1_runTool_180 X hA hq hw h _ _ _ hH hS (lv_sub hl [] rfl)
    have h := (if_neg c2).symm.trans h
    by_cases c3 : x3 = (3 : Int32)
    · have h := (if_pos c3).symm.trans h
      refine lv_tableIn (tgt := 151) hx hb dX1_runTool_103 (by rw [c3]; decide) (by rw [c3]; decide) (by rw [c3]; rfl) (by decide) ?_
      refine lv_aload_n hx hb dX1_runTool_151 rfl (lv_at hl 1 rfl) ?_
      refine lv_iload hx hb dX1_runTool_152 (lv_at hl 3 rfl) ?_
      obtain ⟨S9, eS9, h⟩ := zb_some h
      refine z_cS (As := [.ref x2, .int x4]) X hl hH hS mlX1_119 (kX1_strip eS9) rfl rfl (Nat.le_of_ble_eq_true rfl) ⟨rfl, rfl, Nat.le_of_ble_eq_true rfl, Nat.le_of_ble_eq_true rfl⟩ (zz_0 hq hw hz) dX1_runTool_154 (fun H locs hH hS => ?_)
      refine lv_iconst (v := (1 : Int32)) hx hb dX1_runTool_157 (by decide) ?_
      exact z_zretZ X hH hS h hq hw dX1_runTool_158
    have h := (if_neg c3).symm.trans h
    by_cases c4 : x3 = (4 : Int32)
    · have h := (if_pos c4).symm.trans h
      refine lv_tableIn (tgt := 159) hx hb dX1_runTool_103 (by rw [c4]; decide) (by rw [c4]; decide) (by rw [c4]; rfl) (by decide) ?_
      refine lv_aload_n hx hb dX1_runTool_159 rfl (lv_at hl 1 rfl) ?_
      refine lv_iload hx hb dX1_runTool_160 (lv_at hl 3 rfl) ?_
      obtain ⟨S10, eS10, h⟩ := zb_some h
      refine z_cS (As := [.ref x2, .int x4]) X hl hH hS mlX1_123 (kX1_mask eS10) rfl rfl (Nat.le_of_ble_eq_true rfl) ⟨rfl, rfl, Nat.le_of_ble_eq_true rfl, Nat.le_of_ble_eq_true rfl⟩ (zz_0 hq hw hz) dX1_runTool_162 (fun H locs hH hS => ?_)
      refine lv_iconst (v := (1 : Int32)) hx hb dX1_runTool_165 (by decide) ?_
      exact z_zretZ X hH hS h hq hw dX1_runTool_166
    have h := (if_neg c4).symm.trans h
    by_cases c5 : x3 = (5 : Int32)
    · have h := (if_pos c5).symm.trans h
      refine lv_tableIn (tgt := 180) hx hb dX1_runTool_103 (by rw [c5]; decide) (by rw [c5]; decide) (by rw [c5]; rfl) (by decide) ?_
      exact wX1_runTool_180 X hA hq hw h _ _ _ hH hS (lv_sub hl [] rfl)
    have h := (if_neg c5).symm.trans h
    by_cases c6 : x3 = (6 : Int32)
    · have h := (if_pos c6).symm.trans h
      refine lv_tableIn (tgt := 167) hx hb dX1_runTool_103 (by rw [c6]; decide) (by rw [c6]; decide) (by rw [c6]; rfl) (by decide) ?_
      refine lv_aload_n hx hb dX1_runTool_167 rfl (lv_at hl 0 rfl) ?_
      refine lv_aload_n hx hb dX1_runTool_168 rfl (lv_at hl 1 rfl) ?_
      obtain ⟨u11, eu11, h⟩ := zb_some h
      obtain ⟨S12, z13, eS12, h⟩ := zb2_some h
      obtain ⟨h, hzz13⟩ := zgeI_some h
      have hmz13 := mX1_sort eS12
      refine z_cV (As := [.ref x2]) X hl hH hS mlX1_126 eu11 (kX1_sort (fun q h => hA q (Nat.le_trans (Nat.le_trans hS.1.1 (Nat.le_of_eq hS.2)) h)) eS12) rfl rfl (Nat.le_of_ble_eq_true rfl) ⟨rfl, rfl, Nat.le_of_ble_eq_true rfl, Nat.le_of_ble_eq_true rfl⟩ (zz_f hq hw hmz13 hzz13) dX1_runTool_169 (fun H locs hH hS => ?_)
      obtain ⟨hq, hw⟩ := zz_q hq hw hmz13
      have hz := hzz13
      refine lv_iconst (v := (1 : Int32)) hx hb dX1_runTool_172 (by decide) ?_
      exact z_zretZ X hH hS h hq hw dX1_runTool_173
    have h := (if_neg c6).symm.trans h
    by_cases c7 : x3 = (7 : Int32)
    · have h := (if_pos c7).symm.trans h
      refine lv_tableIn (tgt := 174) hx hb dX1_runTool_103 (by rw [c7]; decide) (by rw [c7]; decide) (by rw [c7]; rfl) (by decide) ?_
      refine lv_aload_n hx hb dX1_runTool_174 rfl (lv_at hl 1 rfl) ?_
      obtain ⟨S14, z15, eS14, h⟩ := zb2_some h
      obtain ⟨h, hzz15⟩ := zgeI_some h
      have hmz15 := mX1_sign eS14
      refine z_cS (As := [.ref x2]) X hl hH hS mlX1_130 (kX1_sign (fun q h => hA q (Nat.le_trans (Nat.le_trans hS.1.1 (Nat.le_of_eq hS.2)) h)) eS14) rfl rfl (Nat.le_of_ble_eq_true rfl) ⟨rfl, rfl, Nat.le_of_ble_eq_true rfl, Nat.le_of_ble_eq_true rfl⟩ (zz_f hq hw hmz15 hzz15) dX1_runTool_175 (fun H locs hH hS => ?_)
      obtain ⟨hq, hw⟩ := zz_q hq hw hmz15
      have hz := hzz15
      refine lv_iconst (v := (1 : Int32)) hx hb dX1_runTool_178 (by decide) ?_
      exact z_zretZ X hH hS h hq hw dX1_runTool_179
    have h := (if_neg c7).symm.trans h
    refine lv_tableOut (tgt := 180) hx hb dX1_runTool_103 (by have := lv_neT c1 (a := 1) (by decide); have := lv_neT c2 (a := 2) (by decide); have := lv_neT c3 (a := 3) (by decide); have := lv_neT c4 (a := 4) (by decide); have := lv_neT c5 (a := 5) (by decide); have := lv_neT c6 (a := 6) (by decide); have := lv_neT c7 (a := 7) (by decide); omega) (by decide) ?_
    exact wX1_runTool_180 X hA hq hw h _ _ _ hH hS (lv_sub hl [] rfl)
  · have h := (if_pos c).symm.trans h
    refine lv_iconst (v := (0 : Int32)) hx hb dX1_runTool_100 (by decide) ?_
    exact z_zretZ X hH hS h hq hw dX1_runTool_101
set_option maxRecDepth 100000 in
set_option maxHeartbeats 4000000 in
theorem wX1_runTool_93 {N : Nat} {MC MS zT : Nat} {r : Int32} {T : zS} (X : zX D cy p s m meth c cX1_runTool 6 RX1 (some .boolean)) (hA : ∀ q : Nat, s.heap.size ≤ q → A q)  {S : zS} {z : Nat} {x0 : Nat} {x2 : Nat} {x3 : Int32} {x4 : Int32} {x5 : Int32} {y0 : Nat} {y1 : Int32} {y2 : Nat} {q w : Nat} (hq : q + zT ≤ MC + z) (hw : w + 200 * zT ≤ MS + 200 * z) (h : rX1_runTool_93 N S z x0 x2 x3 x4 x5 y0 y1 y2 = some (r, T, zT)) : zWt D cy A p l e ({ frames := 3, cells := MC, slots := MS, locals := 70 } : Room) s m args below meth c z q w MC MS (zQ D cy A T zT (some (.int r))) S 6 93 [(0, .ref x0), (2, .ref x2), (3, .int x3), (4, .int x4), (5, .int x5)] [.ref y2, .int y1, .ref y0] := by
  obtain ⟨hx, hb, hml, hown, hr, hlocks, hT⟩ := id X
  intro H locs ls hH hS hl
  unfold rX1_runTool_93 at h
  obtain ⟨h, hz⟩ := zgeI_some h
  refine lv_iconst (v := (0 : Int32)) hx hb dX1_runTool_93 (by decide) ?_
  exact wX1_runTool_94 X hA hq hw h _ _ _ hH hS (lv_sub hl [0, 1, 2, 3, 4] rfl)
set_option maxRecDepth 100000 in
set_option maxHeartbeats 4000000 in
theorem wX1_runTool_67 {N : Nat} {MC MS zT : Nat} {r : Int32} {T : zS} (X : zX D cy p s m meth c cX1_runTool 6 RX1 (some .boolean)) (hA : ∀ q : Nat, s.heap.size ≤ q → A q)  {S : zS} {z : Nat} {y0 : Nat} {y1 : Nat} {y2 : Int32} {y3 : Int32} {q w : Nat} (hq : q + zT ≤ MC + z) (hw : w + 200 * zT ≤ MS + 200 * z) (h : rX1_runTool_67 N S z y0 y1 y2 y3 = some (r, T, zT)) : zWt D cy A p l e ({ frames := 3, cells := MC, slots := MS, locals := 70 } : Room) s m args below meth c z q w MC MS (zQ D cy A T zT (some (.int r))) S 6 67 [] [.int y3, .int y2, .ref y1, .ref y0] := by
  obtain ⟨hx, hb, hml, hown, hr, hlocks, hT⟩ := id X
  intro H locs ls hH hS hl
  unfold rX1_runTool_67 at h
  obtain ⟨h, hz⟩ := zgeI_some h
  obtain ⟨u16, eu16, h⟩ := zb_some h
  obtain ⟨v18, S17, eS17, h⟩ := zb2_some h
  refine z_cV (As := [.int y2, .int y3]) X hl hH hS mlX1_104 eu16 (kX1_inputRow eS17) rfl rfl (Nat.le_of_ble_eq_true rfl) ⟨rfl, rfl, Nat.le_of_ble_eq_true rfl, Nat.le_of_ble_eq_true rfl⟩ (zz_0 hq hw hz) dX1_runTool_67 (fun H locs hH hS => ?_)
  obtain ⟨u19, eu19, h⟩ := zb_some h
  obtain ⟨v22, S20, z21, eS20, h⟩ := zb3_some h
  obtain ⟨h, hzz21⟩ := zgeI_some h
  have hmz21 := mX5_append eS20
  refine z_cV (As := [.ref v18]) X hl hH hS mlX1_108 eu19 (kX5_append (fun q h => hA q (Nat.le_trans (Nat.le_trans hS.1.1 (Nat.le_of_eq hS.2)) h)) eS20) rfl rfl (Nat.le_of_ble_eq_true rfl) ⟨rfl, rfl, Nat.le_of_ble_eq_true rfl, Nat.le_of_ble_eq_true rfl⟩ (zz_f hq hw hmz21 hzz21) dX1_runTool_70 (fun H locs hH hS => ?_)
  obtain ⟨hq, hw⟩ := zz_q hq hw hmz21
  have hz := hzz21
  exact z_zretZ X hH hS h hq hw dX1_runTool_73
set_option maxRecDepth 100000 in
set_option maxHeartbeats 4000000 in
theorem wX1_runTool_0 {N : Nat} {MC MS zT : Nat} {r : Int32} {T : zS} (X : zX D cy p s m meth c cX1_runTool 6 RX1 (some .boolean)) (hA : ∀ q : Nat, s.heap.size ≤ q → A q)  {S : zS} {z : Nat} {x0 : Nat} {x1 : Int32} {x2 : Nat} {q w : Nat} (hq : q + zT ≤ MC + z) (hw : w + 200 * zT ≤ MS + 200 * z) (h : rX1_runTool_0 N S z x0 x1 x2 = some (r, T, zT)) : zWt D cy A p l e ({ frames := 3, cells := MC, slots := MS, locals := 70 } : Room) s m args below meth c z q w MC MS (zQ D cy A T zT (some (.int r))) S 6 0 [(0, .ref x0), (1, .int x1), (2, .ref x2)] [] := by
  obtain ⟨hx, hb, hml, hown, hr, hlocks, hT⟩ := id X
  intro H locs ls hH hS hl
  unfold rX1_runTool_0 at h
  obtain ⟨h, hz⟩ := zgeI_some h
  refine lv_aload_n hx hb dX1_runTool_0 rfl (lv_at hl 0 rfl) ?_
  obtain ⟨v23, ev23, h⟩ := zb_some h
  refine z_getr X flX1_28 hH ev23 dX1_runTool_1 ?_
  obtain ⟨v24, ev24, h⟩ := zb_some h
  refine z_getr X flX1_95 hH ev24 dX1_runTool_4 ?_
  refine lv_iload_n hx hb dX1_runTool_7 rfl (lv_at hl 1 rfl) ?_
  obtain ⟨v25, ev25, h⟩ := zb_some h
  refine z_iald X hH ev25 dX1_runTool_8 ?_
  refine lv_istore_n (lv' := [(3, .int v25), (0, .ref x0), (1, .int x1), (2, .ref x2)]) hx hb dX1_runTool_9 rfl hl (by decide) rfl (fun ls hl => ?_)
  refine lv_aload_n hx hb dX1_runTool_10 rfl (lv_at hl 1 rfl) ?_
  obtain ⟨v26, ev26, h⟩ := zb_some h
  refine z_getr X flX1_28 hH ev26 dX1_runTool_11 ?_
  obtain ⟨v27, ev27, h⟩ := zb_some h
  refine z_getr X flX1_98 hH ev27 dX1_runTool_14 ?_
  refine lv_iload_n hx hb dX1_runTool_17 rfl (lv_at hl 2 rfl) ?_
  obtain ⟨v28, ev28, h⟩ := zb_some h
  refine z_iald X hH ev28 dX1_runTool_18 ?_
  refine lv_istore (lv' := [(4, .int v28), (3, .int v25), (0, .ref x0), (1, .int x1), (2, .ref x2)]) hx hb dX1_runTool_19 hl (by decide) rfl (fun ls hl => ?_)
  refine lv_aload_n hx hb dX1_runTool_21 rfl (lv_at hl 2 rfl) ?_
  obtain ⟨v29, ev29, h⟩ := zb_some h
  refine z_getr X flX1_9 hH ev29 dX1_runTool_22 ?_
  refine lv_aload_n hx hb dX1_runTool_25 rfl (lv_at hl 2 rfl) ?_
  obtain ⟨v30, ev30, h⟩ := zb_some h
  refine z_getr X flX1_28 hH ev30 dX1_runTool_26 ?_
  obtain ⟨v31, ev31, h⟩ := zb_some h
  refine z_getr X flX1_101 hH ev31 dX1_runTool_29 ?_
  refine lv_iload_n hx hb dX1_runTool_32 rfl (lv_at hl 3 rfl) ?_
  obtain ⟨v32, ev32, h⟩ := zb_some h
  refine z_iald X hH ev32 dX1_runTool_33 ?_
  obtain ⟨v33, ev33, h⟩ := zb_some h
  refine z_iald X hH ev33 dX1_runTool_34 ?_
  refine lv_istore (lv' := [(5, .int v33), (4, .int v28), (3, .int v25), (0, .ref x0), (1, .int x1), (2, .ref x2)]) hx hb dX1_runTool_35 hl (by decide) rfl (fun ls hl => ?_)
  refine lv_iload_n hx hb dX1_runTool_37 rfl (lv_at hl 2 rfl) ?_
  refine lv_iconst (v := (5 : Int32)) hx hb dX1_runTool_38 (by decide) ?_
  refine lv_icmp_ne (tgt := 74) hx hb dX1_runTool_39 (by decide) (fun c => ?_) (fun c => ?_)
  · have h := (if_neg c).symm.trans h
    refine lv_aload_n hx hb dX1_runTool_74 rfl (lv_at hl 3 rfl) ?_
    refine lv_iload_n hx hb dX1_runTool_75 rfl (lv_at hl 4 rfl) ?_
    refine lv_aload_n hx hb dX1_runTool_76 rfl (lv_at hl 5 rfl) ?_
    refine lv_iload_n hx hb dX1_runTool_77 rfl (lv_at hl 2 rfl) ?_
    refine lv_iconst (v := (2 : Int32)) hx hb dX1_runTool_78 (by decide) ?_
    refine lv_icmp_ne (tgt := 93) hx hb dX1_runTool_79 (by decide) (fun c => ?_) (fun c => ?_)
    · have h := (if_neg c).symm.trans h
      exact wX1_runTool_93 X hA hq hw h _ _ _ hH hS (lv_sub hl [3, 5, 2, 1, 0] rfl)
    · have h := (if_pos c).symm.trans h
      refine lv_iload hx hb dX1_runTool_82 (lv_at hl 0 rfl) ?_
      refine lv_iconst (v := (1 : Int32)) hx hb dX1_runTool_84 (by decide) ?_
      refine lv_iand hx hb dX1_runTool_85 ?_
      refine lv_if_eq (tgt := 93) hx hb dX1_runTool_86 (by decide) (fun c => ?_) (fun c => ?_)
      · have h := (if_pos c).symm.trans h
        exact wX1_runTool_93 X hA hq hw h _ _ _ hH hS (lv_sub hl [3, 5, 2, 1, 0] rfl)
      · have h := (if_neg c).symm.trans h
        refine lv_iconst (v := (1 : Int32)) hx hb dX1_runTool_89 (by decide) ?_
        refine lv_goto (tgt := 94) hx hb dX1_runTool_90 (by decide) ?_
        exact wX1_runTool_94 X hA hq hw h _ _ _ hH hS (lv_sub hl [3, 5, 2, 1, 0] rfl)
  · have h := (if_pos c).symm.trans h
    refine lv_aload_n hx hb dX1_runTool_42 rfl (lv_at hl 5 rfl) ?_
    refine lv_aload_n hx hb dX1_runTool_43 rfl (lv_at hl 3 rfl) ?_
    refine lv_iload_n hx hb dX1_runTool_44 rfl (lv_at hl 4 rfl) ?_
    refine lv_iload hx hb dX1_runTool_45 (lv_at hl 0 rfl) ?_
    refine lv_iload hx hb dX1_runTool_47 (lv_at hl 1 rfl) ?_
    refine lv_icmp_ge (tgt := 56) hx hb dX1_runTool_49 (by decide) (fun c => ?_) (fun c => ?_)
    · have h := (if_pos c).symm.trans h
      refine lv_aload_n hx hb dX1_runTool_56 rfl (lv_at hl 3 rfl) ?_
      obtain ⟨v34, ev34, h⟩ := zb_some h
      refine z_getr X flX1_28 hH ev34 dX1_runTool_57 ?_
      obtain ⟨v35, ev35, h⟩ := zb_some h
      refine z_getr X flX1_80 hH ev35 dX1_runTool_60 ?_
      refine lv_iload_n hx hb dX1_runTool_63 rfl (lv_at hl 4 rfl) ?_
      obtain ⟨v36, ev36, h⟩ := zb_some h
      refine z_iald X hH ev36 dX1_runTool_64 ?_
      refine lv_iconst (v := (1 : Int32)) hx hb dX1_runTool_65 (by decide) ?_
      refine lv_isub hx hb dX1_runTool_66 ?_
      exact wX1_runTool_67 X hA hq hw h _ _ _ hH hS (lv_sub hl [] rfl)
    · have h := (if_neg c).symm.trans h
      refine lv_iconst (v := (0 : Int32)) hx hb dX1_runTool_52 (by decide) ?_
      refine lv_goto (tgt := 67) hx hb dX1_runTool_53 (by decide) ?_
      exact wX1_runTool_67 X hA hq hw h _ _ _ hH hS (lv_sub hl [] rfl)
theorem mX1_runTool {N : Nat} {zT : Nat} {r : Int32} {T : zS} {S : zS} {z : Nat} {x0 : Nat} {x1 : Int32} {x2 : Nat} (h : rX1_runTool N S z x0 x1 x2 = some (r, T, zT)) : z ≤ zT := by
  unfold rX1_runTool rX1_runTool_0 at h
  exact (zgeI_some h).2
set_option maxRecDepth 100000 in
theorem kX1_runTool {N : Nat} {zT : Nat} {r : Int32} {T : zS} {S : zS} {z : Nat} {x0 : Nat} {x1 : Int32} {x2 : Nat} (hA0 : ∀ q : Nat, z ≤ q → A q) (h : rX1_runTool N S z x0 x1 x2 = some (r, T, zT)) : Met l yX1_runTool [.code yX1_runTool cX1_runTool 6 (some .boolean)] ({ frames := 3, cells := zT - z, slots := 200 * (zT - z), locals := 70 } : Room) (zP D cy A S z [.ref x0, .int x1, .ref x2]) (zQ D cy A T zT (some (.int r))) (zT - z) (200 * (zT - z)) A := by
  have hm := mX1_runTool h
  refine z_metA (lv := [(0, .ref x0), (1, .int x1), (2, .ref x2)]) (by decide) (Nat.le_of_ble_eq_true rfl) rfl ?_
  intro p e s m below meth c X hz H locs ls hH hS hl
  exact wX1_runTool_0 X (fun q hq => hA0 q (by rw [← hz]; exact hq)) (zz_s hm).1 (zz_s hm).2 h _ _ _ hH hS (lv_sub hl [0, 1, 2] rfl)
set_option maxRecDepth 100000 in
set_option maxHeartbeats 4000000 in
theorem wX1_make_69 {N : Nat} {MC MS zT : Nat} {T : zS} (X : zX D cy p s m meth c cX1_make 3 RX1 none) (hA : ∀ q : Nat, s.heap.size ≤ q → A q) {K2 : zS × Nat × Nat × Int32 × Int32 → Option (zS × Nat)} (hK2 : ∀ (S : zS) (z : Nat) (x0 : Nat) (x1 : Int32) (x2 : Int32) (q : Nat) (w : Nat), q + zT ≤ MC + z → w + 200 * zT ≤ MS + 200 * z → K2 (S, z, x0, x1, x2) = some (T, zT) → zWt D cy A p l e ({ frames := 4, cells := MC, slots := MS, locals := 95 } : Room) s m args below meth c z q w MC MS (zQ D cy A T zT none) S 3 2 [(0, .ref x0), (1, .int x1), (2, .int x2)] []) {S : zS} {z : Nat} {x0 : Nat} {x1 : Int32} {x2 : Int32} {q w : Nat} (hq : q + zT ≤ MC + z) (hw : w + 200 * zT ≤ MS + 200 * z) (h : rX1_make_69 N K2 S z x0 x1 x2 = some (T, zT)) : zWt D cy A p l e ({ frames := 4, cells := MC, slots := MS, locals := 95 } : Room) s m args below meth c z q w MC MS (zQ D cy A T zT none) S 3 69 [(0, .ref x0), (1, .int x1), (2, .int x2)] [] := by
  obtain ⟨hx, hb, hml, hown, hr, hlocks, hT⟩ := id X
  intro H locs ls hH hS hl
  unfold rX1_make_69 at h
  obtain ⟨h, hz⟩ := zgeV_some h
  refine lv_iinc (v := (x2 + (1 : Int32))) (lv' := [(2, .int (x2 + (1 : Int32))), (0, .ref x0), (1, .int x1)]) hx hb dX1_make_69 hl (k := 2) rfl (z_ii (by decide) _) (by decide) rfl (fun ls hl => ?_)
  refine lv_goto (tgt := 2) hx hb dX1_make_72 (by decide) ?_
  exact hK2 _ _ _ _ _ _ _ hq hw h _ _ _ hH hS (lv_sub hl [1, 2, 0] rfl)
set_option maxRecDepth 100000 in
set_option maxHeartbeats 4000000 in
theorem wX1_make_68 {N : Nat} {MC MS zT : Nat} {T : zS} (X : zX D cy p s m meth c cX1_make 3 RX1 none) (hA : ∀ q : Nat, s.heap.size ≤ q → A q) {K2 : zS × Nat × Nat × Int32 × Int32 → Option (zS × Nat)} (hK2 : ∀ (S : zS) (z : Nat) (x0 : Nat) (x1 : Int32) (x2 : Int32) (q : Nat) (w : Nat), q + zT ≤ MC + z → w + 200 * zT ≤ MS + 200 * z → K2 (S, z, x0, x1, x2) = some (T, zT) → zWt D cy A p l e ({ frames := 4, cells := MC, slots := MS, locals := 95 } : Room) s m args below meth c z q w MC MS (zQ D cy A T zT none) S 3 2 [(0, .ref x0), (1, .int x1), (2, .int x2)] []) {S : zS} {z : Nat} {x0 : Nat} {x1 : Int32} {x2 : Int32} {y0 : Nat} {y1 : Int32} {y2 : Int32} {q w : Nat} (hq : q + zT ≤ MC + z) (hw : w + 200 * zT ≤ MS + 200 * z) (h : rX1_make_68 N K2 S z x0 x1 x2 y0 y1 y2 = some (T, zT)) : zWt D cy A p l e ({ frames := 4, cells := MC, slots := MS, locals := 95 } : Room) s m args below meth c z q w MC MS (zQ D cy A T zT none) S 3 68 [(0, .ref x0), (1, .int x1), (2, .int x2)] [.int y2, .int y1, .ref y0] := by
  obtain ⟨hx, hb, hml, hown, hr, hlocks, hT⟩ := id X
  intro H locs ls hH hS hl
  unfold rX1_make_68 at h
  obtain ⟨h, hz⟩ := zgeV_some h
  obtain ⟨S1, eS1, h⟩ := zb_some h
  refine z_zast X hH hS eS1 dX1_make_68 (fun H locs hH hS => ?_)
  exact wX1_make_69 X hA hK2 hq hw h _ _ _ hH hS (lv_sub hl [0, 1, 2] rfl)
set_option maxRecDepth 100000 in
set_option maxHeartbeats 4000000 in
theorem wX1_make_63 {N : Nat} {MC MS zT : Nat} {T : zS} (X : zX D cy p s m meth c cX1_make 3 RX1 none) (hA : ∀ q : Nat, s.heap.size ≤ q → A q) {K2 : zS × Nat × Nat × Int32 × Int32 → Option (zS × Nat)} (hK2 : ∀ (S : zS) (z : Nat) (x0 : Nat) (x1 : Int32) (x2 : Int32) (q : Nat) (w : Nat), q + zT ≤ MC + z → w + 200 * zT ≤ MS + 200 * z → K2 (S, z, x0, x1, x2) = some (T, zT) → zWt D cy A p l e ({ frames := 4, cells := MC, slots := MS, locals := 95 } : Room) s m args below meth c z q w MC MS (zQ D cy A T zT none) S 3 2 [(0, .ref x0), (1, .int x1), (2, .int x2)] []) {S : zS} {z : Nat} {x0 : Nat} {x1 : Int32} {x2 : Int32} {y0 : Nat} {y1 : Int32} {q w : Nat} (hq : q + zT ≤ MC + z) (hw : w + 200 * zT ≤ MS + 200 * z) (h : rX1_make_63 N K2 S z x0 x1 x2 y0 y1 = some (T, zT)) : zWt D cy A p l e ({ frames := 4, cells := MC, slots := MS, locals := 95 } : Room) s m args below meth c z q w MC MS (zQ D cy A T zT none) S 3 63 [(0, .ref x0), (1, .int x1), (2, .int x2)] [.int y1, .ref y0] := by
  obtain ⟨hx, hb, hml, hown, hr, hlocks, hT⟩ := id X
  intro H locs ls hH hS hl
  unfold rX1_make_63 at h
  obtain ⟨h, hz⟩ := zgeV_some h
  refine lv_iconst (v := (1 : Int32)) hx hb dX1_make_63 (by decide) ?_
  refine lv_goto (tgt := 68) hx hb dX1_make_64 (by decide) ?_
  exact wX1_make_68 X hA hK2 hq hw h _ _ _ hH hS (lv_sub hl [0, 1, 2] rfl)
set_option maxRecDepth 100000 in
set_option maxHeartbeats 4000000 in
theorem wX1_make_2 {N : Nat} {MC MS zT : Nat} {T : zS} (X : zX D cy p s m meth c cX1_make 3 RX1 none) (hA : ∀ q : Nat, s.heap.size ≤ q → A q) {K2 : zS × Nat × Nat × Int32 × Int32 → Option (zS × Nat)} (hK2 : ∀ (S : zS) (z : Nat) (x0 : Nat) (x1 : Int32) (x2 : Int32) (q : Nat) (w : Nat), q + zT ≤ MC + z → w + 200 * zT ≤ MS + 200 * z → K2 (S, z, x0, x1, x2) = some (T, zT) → zWt D cy A p l e ({ frames := 4, cells := MC, slots := MS, locals := 95 } : Room) s m args below meth c z q w MC MS (zQ D cy A T zT none) S 3 2 [(0, .ref x0), (1, .int x1), (2, .int x2)] []) {S : zS} {z : Nat} {x0 : Nat} {x1 : Int32} {x2 : Int32} {q w : Nat} (hq : q + zT ≤ MC + z) (hw : w + 200 * zT ≤ MS + 200 * z) (h : rX1_make_2 N K2 S z x0 x1 x2 = some (T, zT)) : zWt D cy A p l e ({ frames := 4, cells := MC, slots := MS, locals := 95 } : Room) s m args below meth c z q w MC MS (zQ D cy A T zT none) S 3 2 [(0, .ref x0), (1, .int x1), (2, .int x2)] [] := by
  obtain ⟨hx, hb, hml, hown, hr, hlocks, hT⟩ := id X
  intro H locs ls hH hS hl
  unfold rX1_make_2 at h
  obtain ⟨h, hz⟩ := zgeV_some h
  refine lv_iload_n hx hb dX1_make_2 rfl (lv_at hl 2 rfl) ?_
  refine lv_aload_n hx hb dX1_make_3 rfl (lv_at hl 0 rfl) ?_
  obtain ⟨v2, ev2, h⟩ := zb_some h
  refine z_getr X flX1_28 hH ev2 dX1_make_4 ?_
  obtain ⟨v3, ev3, h⟩ := zb_some h
  refine z_geti X flX1_65 hH ev3 dX1_make_7 ?_
  refine lv_icmp_ge (tgt := 75) hx hb dX1_make_10 (by decide) (fun c => ?_) (fun c => ?_)
  · have h := (if_pos c).symm.trans h
    refine lv_aload_n hx hb dX1_make_75 rfl (lv_at hl 0 rfl) ?_
    refine lv_dup hx hb dX1_make_76 rfl ?_
    obtain ⟨v4, ev4, h⟩ := zb_some h
    refine z_geti X flX1_45 hH ev4 dX1_make_77 ?_
    refine lv_iload_n hx hb dX1_make_80 rfl (lv_at hl 1 rfl) ?_
    refine lv_iconst (v := (-1 : Int32)) hx hb dX1_make_81 (by decide) ?_
    refine lv_ixor hx hb dX1_make_82 ?_
    refine lv_iand hx hb dX1_make_83 ?_
    obtain ⟨S5, eS5, h⟩ := zb_some h
    refine z_puti X flX1_45 fpX1_6 hH hS eS5 dX1_make_84 (fun H locs hH hS => ?_)
    exact z_vretZ X hH hS h hq hw dX1_make_87
  · have h := (if_neg c).symm.trans h
    refine lv_iload_n hx hb dX1_make_13 rfl (lv_at hl 1 rfl) ?_
    refine lv_aload_n hx hb dX1_make_14 rfl (lv_at hl 0 rfl) ?_
    obtain ⟨v6, ev6, h⟩ := zb_some h
    refine z_geti X flX1_45 hH ev6 dX1_make_15 ?_
    refine lv_iand hx hb dX1_make_18 ?_
    refine lv_iconst (v := (1 : Int32)) hx hb dX1_make_19 (by decide) ?_
    refine lv_iload_n hx hb dX1_make_20 rfl (lv_at hl 2 rfl) ?_
    refine lv_ishl hx hb dX1_make_21 ?_
    refine lv_iand hx hb dX1_make_22 ?_
    refine lv_if_eq (tgt := 69) hx hb dX1_make_23 (by decide) (fun c => ?_) (fun c => ?_)
    · have h := (if_pos c).symm.trans h
      exact wX1_make_69 X hA hK2 hq hw h _ _ _ hH hS (lv_sub hl [0, 1, 2] rfl)
    · have h := (if_neg c).symm.trans h
      refine lv_aload_n hx hb dX1_make_26 rfl (lv_at hl 0 rfl) ?_
      obtain ⟨v7, ev7, h⟩ := zb_some h
      refine z_getr X flX1_17 hH ev7 dX1_make_27 ?_
      refine lv_iload_n hx hb dX1_make_30 rfl (lv_at hl 2 rfl) ?_
      obtain ⟨v8, ev8, h⟩ := zb_some h
      refine z_aald X hH 12 (by decide) ev8 dX1_make_31 ?_
      refine lv_iconst (v := (0 : Int32)) hx hb dX1_make_32 (by decide) ?_
      obtain ⟨S9, eS9, h⟩ := zb_some h
      refine z_puti X flX1_68 fpX5_2 hH hS eS9 dX1_make_33 (fun H locs hH hS => ?_)
      refine lv_aload_n hx hb dX1_make_36 rfl (lv_at hl 0 rfl) ?_
      obtain ⟨v10, ev10, h⟩ := zb_some h
      refine z_getr X flX1_21 hH ev10 dX1_make_37 ?_
      refine lv_iload_n hx hb dX1_make_40 rfl (lv_at hl 2 rfl) ?_
      refine lv_aload_n hx hb dX1_make_41 rfl (lv_at hl 0 rfl) ?_
      refine lv_iload_n hx hb dX1_make_42 rfl (lv_at hl 2 rfl) ?_
      obtain ⟨u11, eu11, h⟩ := zb_some h
      obtain ⟨v13, S12, eS12, h⟩ := zb2_some h
      refine z_cV (As := [.int x2]) X hl hH hS mlX1_69 eu11 (kX1_hasGoodInputs eS12) rfl rfl (Nat.le_of_ble_eq_true rfl) ⟨rfl, rfl, Nat.le_of_ble_eq_true rfl, Nat.le_of_ble_eq_true rfl⟩ (zz_0 hq hw hz) dX1_make_43 (fun H locs hH hS => ?_)
      refine lv_if_eq (tgt := 63) hx hb dX1_make_46 (by decide) (fun c => ?_) (fun c => ?_)
      · have h := (if_pos c).symm.trans h
        exact wX1_make_63 X hA hK2 hq hw h _ _ _ hH hS (lv_sub hl [0, 1, 2] rfl)
      · have h := (if_neg c).symm.trans h
        refine lv_aload_n hx hb dX1_make_49 rfl (lv_at hl 0 rfl) ?_
        refine lv_iload_n hx hb dX1_make_50 rfl (lv_at hl 2 rfl) ?_
        refine lv_aload_n hx hb dX1_make_51 rfl (lv_at hl 0 rfl) ?_
        obtain ⟨v14, ev14, h⟩ := zb_some h
        refine z_getr X flX1_17 hH ev14 dX1_make_52 ?_
        refine lv_iload_n hx hb dX1_make_55 rfl (lv_at hl 2 rfl) ?_
        obtain ⟨v15, ev15, h⟩ := zb_some h
        refine z_aald X hH 12 (by decide) ev15 dX1_make_56 ?_
        obtain ⟨u16, eu16, h⟩ := zb_some h
        obtain ⟨v19, S17, z18, eS17, h⟩ := zb3_some h
        obtain ⟨h, hzz18⟩ := zgeV_some h
        have hmz18 := mX1_runTool eS17
        refine z_cV (As := [.int x2, .ref v15]) X hl hH hS mlX1_73 eu16 (kX1_runTool (fun q h => hA q (Nat.le_trans (Nat.le_trans hS.1.1 (Nat.le_of_eq hS.2)) h)) eS17) rfl rfl (Nat.le_of_ble_eq_true rfl) ⟨rfl, rfl, Nat.le_of_ble_eq_true rfl, Nat.le_of_ble_eq_true rfl⟩ (zz_f hq hw hmz18 hzz18) dX1_make_57 (fun H locs hH hS => ?_)
        obtain ⟨hq, hw⟩ := zz_q hq hw hmz18
        have hz := hzz18
        refine lv_if_ne (tgt := 67) hx hb dX1_make_60 (by decide) (fun c => ?_) (fun c => ?_)
        · have h := (if_neg c).symm.trans h
          refine lv_iconst (v := (0 : Int32)) hx hb dX1_make_67 (by decide) ?_
          exact wX1_make_68 X hA hK2 hq hw h _ _ _ hH hS (lv_sub hl [0, 1, 2] rfl)
        · have h := (if_pos c).symm.trans h
          exact wX1_make_63 X hA hK2 hq hw h _ _ _ hH hS (lv_sub hl [0, 1, 2] rfl)
set_option maxRecDepth 100000 in
set_option maxHeartbeats 4000000 in
theorem uX1_make_2 {N : Nat} {MC MS zT : Nat} {T : zS} (X : zX D cy p s m meth c cX1_make 3 RX1 none) (hA : ∀ q : Nat, s.heap.size ≤ q → A q)  {S : zS} {z : Nat} {x0 : Nat} {x1 : Int32} {x2 : Int32} {q w : Nat} (hq : q + zT ≤ MC + z) (hw : w + 200 * zT ≤ MS + 200 * z) (h : rlX1_make_2 N S z x0 x1 x2 = some (T, zT)) : zWt D cy A p l e ({ frames := 4, cells := MC, slots := MS, locals := 95 } : Room) s m args below meth c z q w MC MS (zQ D cy A T zT none) S 3 2 [(0, .ref x0), (1, .int x1), (2, .int x2)] [] := by
  unfold rlX1_make_2 at h
  refine zloop_ind (P := fun y => ∀ (q : Nat) (w : Nat), q + zT ≤ MC + y.2.1 → w + 200 * zT ≤ MS + 200 * y.2.1 → zWt D cy A p l e ({ frames := 4, cells := MC, slots := MS, locals := 95 } : Room) s m args below meth c y.2.1 q w MC MS (zQ D cy A T zT none) y.1 3 2 [(0, .ref y.2.2.1), (1, .int y.2.2.2.1), (2, .int y.2.2.2.2)] []) ?_ N (S, z, x0, x1, x2) h _ _ hq hw
  intro K hK y hy q w hq hw
  obtain ⟨S, z, x0, x1, x2⟩ := y
  exact wX1_make_2 X hA (fun S z x0 x1 x2 q w hq hw h => hK (S, z, x0, x1, x2) h q w hq hw) hq hw hy
set_option maxRecDepth 100000 in
set_option maxHeartbeats 4000000 in
theorem wX1_make_0 {N : Nat} {MC MS zT : Nat} {T : zS} (X : zX D cy p s m meth c cX1_make 3 RX1 none) (hA : ∀ q : Nat, s.heap.size ≤ q → A q)  {S : zS} {z : Nat} {x0 : Nat} {x1 : Int32} {q w : Nat} (hq : q + zT ≤ MC + z) (hw : w + 200 * zT ≤ MS + 200 * z) (h : rX1_make_0 N S z x0 x1 = some (T, zT)) : zWt D cy A p l e ({ frames := 4, cells := MC, slots := MS, locals := 95 } : Room) s m args below meth c z q w MC MS (zQ D cy A T zT none) S 3 0 [(0, .ref x0), (1, .int x1)] [] := by
  obtain ⟨hx, hb, hml, hown, hr, hlocks, hT⟩ := id X
  intro H locs ls hH hS hl
  unfold rX1_make_0 at h
  obtain ⟨h, hz⟩ := zgeV_some h
  refine lv_iconst (v := (0 : Int32)) hx hb dX1_make_0 (by decide) ?_
  refine lv_istore_n (lv' := [(2, .int (0 : Int32)), (0, .ref x0), (1, .int x1)]) hx hb dX1_make_1 rfl hl (by decide) rfl (fun ls hl => ?_)
  exact uX1_make_2 X hA hq hw h _ _ _ hH hS (lv_sub hl [1, 2, 0] rfl)
theorem mX1_make {N : Nat} {zT : Nat} {T : zS} {S : zS} {z : Nat} {x0 : Nat} {x1 : Int32} (h : rX1_make N S z x0 x1 = some (T, zT)) : z ≤ zT := by
  unfold rX1_make rX1_make_0 at h
  exact (zgeV_some h).2
set_option maxRecDepth 100000 in
theorem kX1_make {N : Nat} {zT : Nat} {T : zS} {S : zS} {z : Nat} {x0 : Nat} {x1 : Int32} (hA0 : ∀ q : Nat, z ≤ q → A q) (h : rX1_make N S z x0 x1 = some (T, zT)) : Met l yX1_make [.code yX1_make cX1_make 3 none] ({ frames := 4, cells := zT - z, slots := 200 * (zT - z), locals := 95 } : Room) (zP D cy A S z [.ref x0, .int x1]) (zQ D cy A T zT none) (zT - z) (200 * (zT - z)) A := by
  have hm := mX1_make h
  refine z_metA (lv := [(0, .ref x0), (1, .int x1)]) (by decide) (Nat.le_of_ble_eq_true rfl) rfl ?_
  intro p e s m below meth c X hz H locs ls hH hS hl
  exact wX1_make_0 X (fun q hq => hA0 q (by rw [← hz]; exact hq)) (zz_s hm).1 (zz_s hm).2 h _ _ _ hH hS (lv_sub hl [0, 1] rfl)
set_option maxRecDepth 100000 in
set_option maxHeartbeats 4000000 in
theorem wX1_makeIn_0 {N : Nat} {MC MS zT : Nat} {T : zS} (X : zX D cy p s m meth c cX1_makeIn 3 RX1 none) (hA : ∀ q : Nat, s.heap.size ≤ q → A q)  {S : zS} {z : Nat} {x0 : Nat} {x1 : Nat} {x2 : Int32} {q w : Nat} (hq : q + zT ≤ MC + z) (hw : w + 200 * zT ≤ MS + 200 * z) (h : rX1_makeIn_0 N S z x0 x1 x2 = some (T, zT)) : zWt D cy A p l e ({ frames := 5, cells := MC, slots := MS, locals := 117 } : Room) s m args below meth c z q w MC MS (zQ D cy A T zT none) S 3 0 [(0, .ref x0), (1, .ref x1), (2, .int x2)] [] := by
  obtain ⟨hx, hb, hml, hown, hr, hlocks, hT⟩ := id X
  intro H locs ls hH hS hl
  unfold rX1_makeIn_0 at h
  obtain ⟨h, hz⟩ := zgeV_some h
  refine lv_aload_n hx hb dX1_makeIn_0 rfl (lv_at hl 0 rfl) ?_
  refine lv_aload_n hx hb dX1_makeIn_1 rfl (lv_at hl 1 rfl) ?_
  obtain ⟨u1, eu1, h⟩ := zb_some h
  obtain ⟨S2, eS2, h⟩ := zb_some h
  refine z_cV (As := [.ref x1]) X hl hH hS mlX1_49 eu1 (kX1_open eS2) rfl rfl (Nat.le_of_ble_eq_true rfl) ⟨rfl, rfl, Nat.le_of_ble_eq_true rfl, Nat.le_of_ble_eq_true rfl⟩ (zz_0 hq hw hz) dX1_makeIn_2 (fun H locs hH hS => ?_)
  refine lv_aload_n hx hb dX1_makeIn_5 rfl (lv_at hl 0 rfl) ?_
  refine lv_aload_n hx hb dX1_makeIn_6 rfl (lv_at hl 0 rfl) ?_
  obtain ⟨v3, ev3, h⟩ := zb_some h
  refine z_getr X flX1_28 hH ev3 dX1_makeIn_7 ?_
  obtain ⟨v4, ev4, h⟩ := zb_some h
  refine z_getr X flX1_53 hH ev4 dX1_makeIn_10 ?_
  refine lv_iload_n hx hb dX1_makeIn_13 rfl (lv_at hl 2 rfl) ?_
  obtain ⟨v5, ev5, h⟩ := zb_some h
  refine z_iald X hH ev5 dX1_makeIn_14 ?_
  obtain ⟨u6, eu6, h⟩ := zb_some h
  obtain ⟨S7, z8, eS7, h⟩ := zb2_some h
  obtain ⟨h, hzz8⟩ := zgeV_some h
  have hmz8 := mX1_make eS7
  refine z_cV (As := [.int v5]) X hl hH hS mlX1_58 eu6 (kX1_make (fun q h => hA q (Nat.le_trans (Nat.le_trans hS.1.1 (Nat.le_of_eq hS.2)) h)) eS7) rfl rfl (Nat.le_of_ble_eq_true rfl) ⟨rfl, rfl, Nat.le_of_ble_eq_true rfl, Nat.le_of_ble_eq_true rfl⟩ (zz_f hq hw hmz8 hzz8) dX1_makeIn_15 (fun H locs hH hS => ?_)
  obtain ⟨hq, hw⟩ := zz_q hq hw hmz8
  have hz := hzz8
  exact z_vretZ X hH hS h hq hw dX1_makeIn_18
theorem mX1_makeIn {N : Nat} {zT : Nat} {T : zS} {S : zS} {z : Nat} {x0 : Nat} {x1 : Nat} {x2 : Int32} (h : rX1_makeIn N S z x0 x1 x2 = some (T, zT)) : z ≤ zT := by
  unfold rX1_makeIn rX1_makeIn_0 at h
  exact (zgeV_some h).2
set_option maxRecDepth 100000 in
theorem kX1_makeIn {N : Nat} {zT : Nat} {T : zS} {S : zS} {z : Nat} {x0 : Nat} {x1 : Nat} {x2 : Int32} (hA0 : ∀ q : Nat, z ≤ q → A q) (h : rX1_makeIn N S z x0 x1 x2 = some (T, zT)) : Met l yX1_makeIn [.code yX1_makeIn cX1_makeIn 3 none] ({ frames := 5, cells := zT - z, slots := 200 * (zT - z), locals := 117 } : Room) (zP D cy A S z [.ref x0, .ref x1, .int x2]) (zQ D cy A T zT none) (zT - z) (200 * (zT - z)) A := by
  have hm := mX1_makeIn h
  refine z_metA (lv := [(0, .ref x0), (1, .ref x1), (2, .int x2)]) (by decide) (Nat.le_of_ble_eq_true rfl) rfl ?_
  intro p e s m below meth c X hz H locs ls hH hS hl
  exact wX1_makeIn_0 X (fun q hq => hA0 q (by rw [← hz]; exact hq)) (zz_s hm).1 (zz_s hm).2 h _ _ _ hH hS (lv_sub hl [0, 1, 2] rfl)
set_option maxRecDepth 100000 in
set_option maxHeartbeats 4000000 in
theorem wX1_turn_34 {z : Nat} {N : Nat} {T : zS} (X : zX D cy p s m meth c cX1_turn 3 RX1 none)  {S : zS} (h : rX1_turn_34 N S = some T) : zWt D cy A p l e { frames := 1, cells := 0, slots := 0, locals := 23 } s m args below meth c z 0 0 0 0 (zQ D cy A T z none) S 3 34 [] [] := by
  obtain ⟨hx, hb, hml, hown, hr, hlocks, hT⟩ := id X
  intro H locs ls hH hS hl
  unfold rX1_turn_34 at h
  exact z_vret X hH hS h dX1_turn_34
set_option maxRecDepth 100000 in
set_option maxHeartbeats 4000000 in
theorem wX1_turn_0 {z : Nat} {N : Nat} {T : zS} (X : zX D cy p s m meth c cX1_turn 3 RX1 none)  {S : zS} {x0 : Nat} {x1 : Int32} {x2 : Int32} (h : rX1_turn_0 N S x0 x1 x2 = some T) : zWt D cy A p l e { frames := 1, cells := 0, slots := 0, locals := 23 } s m args below meth c z 0 0 0 0 (zQ D cy A T z none) S 3 0 [(0, .ref x0), (1, .int x1), (2, .int x2)] [] := by
  obtain ⟨hx, hb, hml, hown, hr, hlocks, hT⟩ := id X
  intro H locs ls hH hS hl
  unfold rX1_turn_0 at h
  refine lv_aload_n hx hb dX1_turn_0 rfl (lv_at hl 0 rfl) ?_
  obtain ⟨v1, ev1, h⟩ := zb_some h
  refine z_getr X flX1_9 hH ev1 dX1_turn_1 ?_
  refine lv_iload_n hx hb dX1_turn_4 rfl (lv_at hl 1 rfl) ?_
  obtain ⟨v2, ev2, h⟩ := zb_some h
  refine z_iald X hH ev2 dX1_turn_5 ?_
  refine lv_iload_n hx hb dX1_turn_6 rfl (lv_at hl 2 rfl) ?_
  refine lv_icmp_eq (tgt := 34) hx hb dX1_turn_7 (by decide) (fun c => ?_) (fun c => ?_)
  · have h := (if_pos c).symm.trans h
    exact wX1_turn_34 X h _ _ _ hH hS (lv_sub hl [] rfl)
  · have h := (if_neg c).symm.trans h
    refine lv_aload_n hx hb dX1_turn_10 rfl (lv_at hl 0 rfl) ?_
    obtain ⟨v3, ev3, h⟩ := zb_some h
    refine z_getr X flX1_9 hH ev3 dX1_turn_11 ?_
    refine lv_iload_n hx hb dX1_turn_14 rfl (lv_at hl 1 rfl) ?_
    refine lv_iload_n hx hb dX1_turn_15 rfl (lv_at hl 2 rfl) ?_
    obtain ⟨S4, eS4, h⟩ := zb_some h
    refine z_iast X hH hS eS4 dX1_turn_16 (fun H locs hH hS => ?_)
    refine lv_aload_n hx hb dX1_turn_17 rfl (lv_at hl 0 rfl) ?_
    refine lv_dup hx hb dX1_turn_18 rfl ?_
    obtain ⟨v5, ev5, h⟩ := zb_some h
    refine z_geti X flX1_45 hH ev5 dX1_turn_19 ?_
    refine lv_aload_n hx hb dX1_turn_22 rfl (lv_at hl 0 rfl) ?_
    obtain ⟨v6, ev6, h⟩ := zb_some h
    refine z_getr X flX1_28 hH ev6 dX1_turn_23 ?_
    refine lv_iload_n hx hb dX1_turn_26 rfl (lv_at hl 1 rfl) ?_
    obtain ⟨u7, eu7, h⟩ := zb_some h
    obtain ⟨v9, S8, eS8, h⟩ := zb2_some h
    refine z_cV (As := [.int x1]) X hl hH hS mlX1_61 eu7 (kX4_stepsReachedBy eS8) rfl rfl (Nat.le_of_ble_eq_true rfl) ⟨rfl, rfl, Nat.le_of_ble_eq_true rfl, Nat.le_of_ble_eq_true rfl⟩ ⟨Nat.le_refl _, Nat.le_refl _⟩ dX1_turn_27 (fun H locs hH hS => ?_)
    refine lv_ior hx hb dX1_turn_30 ?_
    obtain ⟨S10, eS10, h⟩ := zb_some h
    refine z_puti X flX1_45 fpX1_6 hH hS eS10 dX1_turn_31 (fun H locs hH hS => ?_)
    exact wX1_turn_34 X h _ _ _ hH hS (lv_sub hl [] rfl)
set_option maxRecDepth 100000 in
theorem kX1_turn {N : Nat} {T : zS} {S : zS} {z : Nat} {x0 : Nat} {x1 : Int32} {x2 : Int32} (h : rX1_turn N S x0 x1 x2 = some T) : Met l yX1_turn [.code yX1_turn cX1_turn 3 none] { frames := 1, cells := 0, slots := 0, locals := 23 } (zP D cy A S z [.ref x0, .int x1, .int x2]) (zQ D cy A T z none) 0 0 A := by
  refine z_met (lv := [(0, .ref x0), (1, .int x1), (2, .int x2)]) (by decide) (Nat.le_of_ble_eq_true rfl) rfl ?_
  intro p e s m below meth c X H locs ls hH hS hl
  exact wX1_turn_0 X h _ _ _ hH hS (lv_sub hl [0, 1, 2] rfl)
set_option maxRecDepth 100000 in
set_option maxHeartbeats 4000000 in
theorem wX1_wordsRead_43 {z : Nat} {N : Nat} {r : Int32} {T : zS} (X : zX D cy p s m meth c cX1_wordsRead 4 RX1 (some .int)) {K4 : zS × Nat × Int32 × Int32 × Int32 → Option (Int32 × zS)} (hK4 : ∀ (S : zS) (x0 : Nat) (x1 : Int32) (x2 : Int32) (x3 : Int32), K4 (S, x0, x1, x2, x3) = some (r, T) → zWt D cy A p l e { frames := 1, cells := 0, slots := 0, locals := 22 } s m args below meth c z 0 0 0 0 (zQ D cy A T z (some (.int r))) S 4 4 [(0, .ref x0), (1, .int x1), (2, .int x2), (3, .int x3)] []) {S : zS} {x0 : Nat} {x1 : Int32} {x2 : Int32} {x3 : Int32} (h : rX1_wordsRead_43 N K4 S x0 x1 x2 x3 = some (r, T)) : zWt D cy A p l e { frames := 1, cells := 0, slots := 0, locals := 22 } s m args below meth c z 0 0 0 0 (zQ D cy A T z (some (.int r))) S 4 43 [(0, .ref x0), (1, .int x1), (2, .int x2), (3, .int x3)] [] := by
  obtain ⟨hx, hb, hml, hown, hr, hlocks, hT⟩ := id X
  intro H locs ls hH hS hl
  unfold rX1_wordsRead_43 at h
  refine lv_iinc (v := (x3 + (1 : Int32))) (lv' := [(3, .int (x3 + (1 : Int32))), (0, .ref x0), (1, .int x1), (2, .int x2)]) hx hb dX1_wordsRead_43 hl (k := 3) rfl (z_ii (by decide) _) (by decide) rfl (fun ls hl => ?_)
  refine lv_goto (tgt := 4) hx hb dX1_wordsRead_46 (by decide) ?_
  exact hK4 _ _ _ _ _ h _ _ _ hH hS (lv_sub hl [1, 2, 3, 0] rfl)
set_option maxRecDepth 100000 in
set_option maxHeartbeats 4000000 in
theorem wX1_wordsRead_4 {z : Nat} {N : Nat} {r : Int32} {T : zS} (X : zX D cy p s m meth c cX1_wordsRead 4 RX1 (some .int)) {K4 : zS × Nat × Int32 × Int32 × Int32 → Option (Int32 × zS)} (hK4 : ∀ (S : zS) (x0 : Nat) (x1 : Int32) (x2 : Int32) (x3 : Int32), K4 (S, x0, x1, x2, x3) = some (r, T) → zWt D cy A p l e { frames := 1, cells := 0, slots := 0, locals := 22 } s m args below meth c z 0 0 0 0 (zQ D cy A T z (some (.int r))) S 4 4 [(0, .ref x0), (1, .int x1), (2, .int x2), (3, .int x3)] []) {S : zS} {x0 : Nat} {x1 : Int32} {x2 : Int32} {x3 : Int32} (h : rX1_wordsRead_4 N K4 S x0 x1 x2 x3 = some (r, T)) : zWt D cy A p l e { frames := 1, cells := 0, slots := 0, locals := 22 } s m args below meth c z 0 0 0 0 (zQ D cy A T z (some (.int r))) S 4 4 [(0, .ref x0), (1, .int x1), (2, .int x2), (3, .int x3)] [] := by
  obtain ⟨hx, hb, hml, hown, hr, hlocks, hT⟩ := id X
  intro H locs ls hH hS hl
  unfold rX1_wordsRead_4 at h
  refine lv_iload_n hx hb dX1_wordsRead_4 rfl (lv_at hl 3 rfl) ?_
  refine lv_aload_n hx hb dX1_wordsRead_5 rfl (lv_at hl 0 rfl) ?_
  obtain ⟨v1, ev1, h⟩ := zb_some h
  refine z_getr X flX1_28 hH ev1 dX1_wordsRead_6 ?_
  obtain ⟨v2, ev2, h⟩ := zb_some h
  refine z_geti X flX1_65 hH ev2 dX1_wordsRead_9 ?_
  refine lv_icmp_ge (tgt := 49) hx hb dX1_wordsRead_12 (by decide) (fun c => ?_) (fun c => ?_)
  · have h := (if_pos c).symm.trans h
    refine lv_iload_n hx hb dX1_wordsRead_49 rfl (lv_at hl 2 rfl) ?_
    exact z_iret X hH hS h dX1_wordsRead_50
  · have h := (if_neg c).symm.trans h
    refine lv_iload_n hx hb dX1_wordsRead_15 rfl (lv_at hl 1 rfl) ?_
    refine lv_iload_n hx hb dX1_wordsRead_16 rfl (lv_at hl 3 rfl) ?_
    refine lv_iushr hx hb dX1_wordsRead_17 (zush_eq _ _) ?_
    refine lv_iconst (v := (1 : Int32)) hx hb dX1_wordsRead_18 (by decide) ?_
    refine lv_iand hx hb dX1_wordsRead_19 ?_
    refine lv_if_eq (tgt := 43) hx hb dX1_wordsRead_20 (by decide) (fun c => ?_) (fun c => ?_)
    · have h := (if_pos c).symm.trans h
      exact wX1_wordsRead_43 X hK4 h _ _ _ hH hS (lv_sub hl [0, 1, 2, 3] rfl)
    · have h := (if_neg c).symm.trans h
      refine lv_aload_n hx hb dX1_wordsRead_23 rfl (lv_at hl 0 rfl) ?_
      obtain ⟨v3, ev3, h⟩ := zb_some h
      refine z_getr X flX1_21 hH ev3 dX1_wordsRead_24 ?_
      refine lv_iload_n hx hb dX1_wordsRead_27 rfl (lv_at hl 3 rfl) ?_
      obtain ⟨v4, ev4, h⟩ := zb_some h
      refine z_zald X hH ev4 dX1_wordsRead_28 ?_
      refine lv_if_ne (tgt := 43) hx hb dX1_wordsRead_29 (by decide) (fun c => ?_) (fun c => ?_)
      · have h := (if_neg c).symm.trans h
        exact wX1_wordsRead_43 X hK4 h _ _ _ hH hS (lv_sub hl [0, 1, 2, 3] rfl)
      · have h := (if_pos c).symm.trans h
        refine lv_iload_n hx hb dX1_wordsRead_32 rfl (lv_at hl 2 rfl) ?_
        refine lv_aload_n hx hb dX1_wordsRead_33 rfl (lv_at hl 0 rfl) ?_
        obtain ⟨v5, ev5, h⟩ := zb_some h
        refine z_getr X flX1_28 hH ev5 dX1_wordsRead_34 ?_
        refine lv_iload_n hx hb dX1_wordsRead_37 rfl (lv_at hl 3 rfl) ?_
        obtain ⟨u6, eu6, h⟩ := zb_some h
        obtain ⟨v8, S7, eS7, h⟩ := zb2_some h
        refine z_cV (As := [.int x3]) X hl hH hS mlX1_77 eu6 (kX4_ownWord eS7) rfl rfl (Nat.le_of_ble_eq_true rfl) ⟨rfl, rfl, Nat.le_of_ble_eq_true rfl, Nat.le_of_ble_eq_true rfl⟩ ⟨Nat.le_refl _, Nat.le_refl _⟩ dX1_wordsRead_38 (fun H locs hH hS => ?_)
        refine lv_ior hx hb dX1_wordsRead_41 ?_
        refine lv_istore_n (lv' := [(2, .int (x2 ||| v8)), (0, .ref x0), (1, .int x1), (3, .int x3)]) hx hb dX1_wordsRead_42 rfl hl (by decide) rfl (fun ls hl => ?_)
        exact wX1_wordsRead_43 X hK4 h _ _ _ hH hS (lv_sub hl [1, 2, 0, 3] rfl)
set_option maxRecDepth 100000 in
set_option maxHeartbeats 4000000 in
theorem uX1_wordsRead_4 {z : Nat} {N : Nat} {r : Int32} {T : zS} (X : zX D cy p s m meth c cX1_wordsRead 4 RX1 (some .int))  {S : zS} {x0 : Nat} {x1 : Int32} {x2 : Int32} {x3 : Int32} (h : rlX1_wordsRead_4 N S x0 x1 x2 x3 = some (r, T)) : zWt D cy A p l e { frames := 1, cells := 0, slots := 0, locals := 22 } s m args below meth c z 0 0 0 0 (zQ D cy A T z (some (.int r))) S 4 4 [(0, .ref x0), (1, .int x1), (2, .int x2), (3, .int x3)] [] := by
  unfold rlX1_wordsRead_4 at h
  refine zloop_ind (P := fun y => zWt D cy A p l e { frames := 1, cells := 0, slots := 0, locals := 22 } s m args below meth c z 0 0 0 0 (zQ D cy A T z (some (.int r))) y.1 4 4 [(0, .ref y.2.1), (1, .int y.2.2.1), (2, .int y.2.2.2.1), (3, .int y.2.2.2.2)] []) ?_ N (S, x0, x1, x2, x3) h
  intro K hK y hy
  obtain ⟨S, x0, x1, x2, x3⟩ := y
  exact wX1_wordsRead_4 X (fun S x0 x1 x2 x3 hq => hK (S, x0, x1, x2, x3) hq) hy
set_option maxRecDepth 100000 in
set_option maxHeartbeats 4000000 in
theorem wX1_wordsRead_0 {z : Nat} {N : Nat} {r : Int32} {T : zS} (X : zX D cy p s m meth c cX1_wordsRead 4 RX1 (some .int))  {S : zS} {x0 : Nat} {x1 : Int32} (h : rX1_wordsRead_0 N S x0 x1 = some (r, T)) : zWt D cy A p l e { frames := 1, cells := 0, slots := 0, locals := 22 } s m args below meth c z 0 0 0 0 (zQ D cy A T z (some (.int r))) S 4 0 [(0, .ref x0), (1, .int x1)] [] := by
  obtain ⟨hx, hb, hml, hown, hr, hlocks, hT⟩ := id X
  intro H locs ls hH hS hl
  unfold rX1_wordsRead_0 at h
  refine lv_iconst (v := (0 : Int32)) hx hb dX1_wordsRead_0 (by decide) ?_
  refine lv_istore_n (lv' := [(2, .int (0 : Int32)), (0, .ref x0), (1, .int x1)]) hx hb dX1_wordsRead_1 rfl hl (by decide) rfl (fun ls hl => ?_)
  refine lv_iconst (v := (0 : Int32)) hx hb dX1_wordsRead_2 (by decide) ?_
  refine lv_istore_n (lv' := [(3, .int (0 : Int32)), (2, .int (0 : Int32)), (0, .ref x0), (1, .int x1)]) hx hb dX1_wordsRead_3 rfl hl (by decide) rfl (fun ls hl => ?_)
  exact uX1_wordsRead_4 X h _ _ _ hH hS (lv_sub hl [2, 3, 1, 0] rfl)
set_option maxRecDepth 100000 in
theorem kX1_wordsRead {N : Nat} {r : Int32} {T : zS} {S : zS} {z : Nat} {x0 : Nat} {x1 : Int32} (h : rX1_wordsRead N S x0 x1 = some (r, T)) : Met l yX1_wordsRead [.code yX1_wordsRead cX1_wordsRead 4 (some .int)] { frames := 1, cells := 0, slots := 0, locals := 22 } (zP D cy A S z [.ref x0, .int x1]) (zQ D cy A T z (some (.int r))) 0 0 A := by
  refine z_met (lv := [(0, .ref x0), (1, .int x1)]) (by decide) (Nat.le_of_ble_eq_true rfl) rfl ?_
  intro p e s m below meth c X H locs ls hH hS hl
  exact wX1_wordsRead_0 X h _ _ _ hH hS (lv_sub hl [0, 1] rfl)
end
