section
variable {D : va_G} {cy : Nat → ClassId} {A : Nat → Prop} {p : Program} {l : Launch} {e : Env} {s : State} {m : MethodId} {args : Array Value} {below : List Frame} {meth : Method} {c : Code}
set_option maxRecDepth 100000 in
set_option maxHeartbeats 4000000 in
theorem wX7_breaks_49 {N : Nat} {MC MS zT : Nat} {r : Int32} {T : zS} (X : zX D cy p s m meth c cX7_breaks 5 RX7 (some .int)) (hA : ∀ q : Nat, s.heap.size ≤ q → A q)  {S : zS} {z : Nat} {y0 : Int32} {q w : Nat} (hq : q + zT ≤ MC + z) (hw : w + 200 * zT ≤ MS + 200 * z) (h : rX7_breaks_49 N S z y0 = some (r, T, zT)) : zWt D cy A p l e ({ frames := 7, cells := MC, slots := MS, locals := 164 } : Room) s m args below meth c z q w MC MS (zQ D cy A T zT (some (.int r))) S 5 49 [] [.int y0] := by
  obtain ⟨hx, hb, hml, hown, hr, hlocks, hT⟩ := id X
  intro H locs ls hH hS hl
  unfold rX7_breaks_49 at h
  obtain ⟨h, hz⟩ := zgeI_some h
  exact z_iretZ X hH hS h hq hw dX7_breaks_49
set_option maxRecDepth 100000 in
set_option maxHeartbeats 4000000 in
theorem wX7_breaks_22 {N : Nat} {MC MS zT : Nat} {r : Int32} {T : zS} (X : zX D cy p s m meth c cX7_breaks 5 RX7 (some .int)) (hA : ∀ q : Nat, s.heap.size ≤ q → A q)  {S : zS} {z : Nat} {q w : Nat} (hq : q + zT ≤ MC + z) (hw : w + 200 * zT ≤ MS + 200 * z) (h : rX7_breaks_22 N S z = some (r, T, zT)) : zWt D cy A p l e ({ frames := 7, cells := MC, slots := MS, locals := 164 } : Room) s m args below meth c z q w MC MS (zQ D cy A T zT (some (.int r))) S 5 22 [] [] := by
  obtain ⟨hx, hb, hml, hown, hr, hlocks, hT⟩ := id X
  intro H locs ls hH hS hl
  unfold rX7_breaks_22 at h
  obtain ⟨h, hz⟩ := zgeI_some h
  refine lv_iconst (v := (-1 : Int32)) hx hb dX7_breaks_22 (by decide) ?_
  exact z_iretZ X hH hS h hq hw dX7_breaks_23
set_option maxRecDepth 100000 in
set_option maxHeartbeats 4000000 in
theorem wX7_breaks_0 {N : Nat} {MC MS zT : Nat} {r : Int32} {T : zS} (X : zX D cy p s m meth c cX7_breaks 5 RX7 (some .int)) (hA : ∀ q : Nat, s.heap.size ≤ q → A q)  {S : zS} {z : Nat} {x0 : Nat} {x1 : Int32} {x2 : Int32} {x3 : Int32} {q w : Nat} (hq : q + zT ≤ MC + z) (hw : w + 200 * zT ≤ MS + 200 * z) (h : rX7_breaks_0 N S z x0 x1 x2 x3 = some (r, T, zT)) : zWt D cy A p l e ({ frames := 7, cells := MC, slots := MS, locals := 164 } : Room) s m args below meth c z q w MC MS (zQ D cy A T zT (some (.int r))) S 5 0 [(0, .ref x0), (1, .int x1), (2, .int x2), (3, .int x3)] [] := by
  obtain ⟨hx, hb, hml, hown, hr, hlocks, hT⟩ := id X
  intro H locs ls hH hS hl
  unfold rX7_breaks_0 at h
  obtain ⟨h, hz⟩ := zgeI_some h
  refine lv_iload_n hx hb dX7_breaks_0 rfl (lv_at hl 1 rfl) ?_
  obtain ⟨v2, S1, eS1, h⟩ := zb2_some h
  refine z_cS (As := [.int x1]) X hl hH hS mlX7_93 (kX7_isRoom eS1) rfl rfl (Nat.le_of_ble_eq_true rfl) ⟨rfl, rfl, Nat.le_of_ble_eq_true rfl, Nat.le_of_ble_eq_true rfl⟩ (zz_0 hq hw hz) dX7_breaks_1 (fun H locs hH hS => ?_)
  refine lv_if_eq (tgt := 22) hx hb dX7_breaks_4 (by decide) (fun c => ?_) (fun c => ?_)
  · have h := (if_pos c).symm.trans h
    exact wX7_breaks_22 X hA hq hw h _ _ _ hH hS (lv_sub hl [] rfl)
  · have h := (if_neg c).symm.trans h
    refine lv_aload_n hx hb dX7_breaks_7 rfl (lv_at hl 0 rfl) ?_
    refine lv_iload_n hx hb dX7_breaks_8 rfl (lv_at hl 2 rfl) ?_
    obtain ⟨u3, eu3, h⟩ := zb_some h
    obtain ⟨v5, S4, eS4, h⟩ := zb2_some h
    refine z_cV (As := [.int x2]) X hl hH hS mlX7_122 eu3 (kX7_isStep eS4) rfl rfl (Nat.le_of_ble_eq_true rfl) ⟨rfl, rfl, Nat.le_of_ble_eq_true rfl, Nat.le_of_ble_eq_true rfl⟩ (zz_0 hq hw hz) dX7_breaks_9 (fun H locs hH hS => ?_)
    refine lv_if_eq (tgt := 22) hx hb dX7_breaks_12 (by decide) (fun c => ?_) (fun c => ?_)
    · have h := (if_pos c).symm.trans h
      exact wX7_breaks_22 X hA hq hw h _ _ _ hH hS (lv_sub hl [] rfl)
    · have h := (if_neg c).symm.trans h
      refine lv_iload_n hx hb dX7_breaks_15 rfl (lv_at hl 3 rfl) ?_
      obtain ⟨v7, S6, eS6, h⟩ := zb2_some h
      refine z_cS (As := [.int x3]) X hl hH hS mlX7_96 (kX7_isWord eS6) rfl rfl (Nat.le_of_ble_eq_true rfl) ⟨rfl, rfl, Nat.le_of_ble_eq_true rfl, Nat.le_of_ble_eq_true rfl⟩ (zz_0 hq hw hz) dX7_breaks_16 (fun H locs hH hS => ?_)
      refine lv_if_ne (tgt := 24) hx hb dX7_breaks_19 (by decide) (fun c => ?_) (fun c => ?_)
      · have h := (if_neg c).symm.trans h
        refine lv_aload_n hx hb dX7_breaks_24 rfl (lv_at hl 0 rfl) ?_
        refine lv_iload_n hx hb dX7_breaks_25 rfl (lv_at hl 1 rfl) ?_
        refine lv_iload_n hx hb dX7_breaks_26 rfl (lv_at hl 2 rfl) ?_
        refine lv_iload_n hx hb dX7_breaks_27 rfl (lv_at hl 3 rfl) ?_
        refine lv_sipush (v := (255 : Int32)) hx hb dX7_breaks_28 (by decide) ?_
        obtain ⟨u8, eu8, h⟩ := zb_some h
        obtain ⟨v11, S9, z10, eS9, h⟩ := zb3_some h
        obtain ⟨h, hzz10⟩ := zgeI_some h
        have hmz10 := mX7_firstUnlike eS9
        refine z_cV (As := [.int x1, .int x2, .int x3, .int (255 : Int32)]) X hl hH hS mlX7_210 eu8 (kX7_firstUnlike (fun q h => hA q (Nat.le_trans (Nat.le_trans hS.1.1 (Nat.le_of_eq hS.2)) h)) eS9) rfl rfl (Nat.le_of_ble_eq_true rfl) ⟨rfl, rfl, Nat.le_of_ble_eq_true rfl, Nat.le_of_ble_eq_true rfl⟩ (zz_f hq hw hmz10 hzz10) dX7_breaks_31 (fun H locs hH hS => ?_)
        obtain ⟨hq, hw⟩ := zz_q hq hw hmz10
        have hz := hzz10
        refine lv_istore (lv' := [(4, .int v11), (0, .ref x0), (1, .int x1), (2, .int x2), (3, .int x3)]) hx hb dX7_breaks_34 hl (by decide) rfl (fun ls hl => ?_)
        refine lv_iload hx hb dX7_breaks_36 (lv_at hl 0 rfl) ?_
        refine lv_iconst (v := (-1 : Int32)) hx hb dX7_breaks_38 (by decide) ?_
        refine lv_icmp_ne (tgt := 47) hx hb dX7_breaks_39 (by decide) (fun c => ?_) (fun c => ?_)
        · have h := (if_neg c).symm.trans h
          refine lv_iload hx hb dX7_breaks_47 (lv_at hl 0 rfl) ?_
          exact wX7_breaks_49 X hA hq hw h _ _ _ hH hS (lv_sub hl [] rfl)
        · have h := (if_pos c).symm.trans h
          refine lv_bipush (v := (-2 : Int32)) hx hb dX7_breaks_42 (by decide) ?_
          refine lv_goto (tgt := 49) hx hb dX7_breaks_44 (by decide) ?_
          exact wX7_breaks_49 X hA hq hw h _ _ _ hH hS (lv_sub hl [] rfl)
      · have h := (if_pos c).symm.trans h
        exact wX7_breaks_22 X hA hq hw h _ _ _ hH hS (lv_sub hl [] rfl)
theorem mX7_breaks {N : Nat} {zT : Nat} {r : Int32} {T : zS} {S : zS} {z : Nat} {x0 : Nat} {x1 : Int32} {x2 : Int32} {x3 : Int32} (h : rX7_breaks N S z x0 x1 x2 x3 = some (r, T, zT)) : z ≤ zT := by
  unfold rX7_breaks rX7_breaks_0 at h
  exact (zgeI_some h).2
set_option maxRecDepth 100000 in
theorem kX7_breaks {N : Nat} {zT : Nat} {r : Int32} {T : zS} {S : zS} {z : Nat} {x0 : Nat} {x1 : Int32} {x2 : Int32} {x3 : Int32} (hA0 : ∀ q : Nat, z ≤ q → A q) (h : rX7_breaks N S z x0 x1 x2 x3 = some (r, T, zT)) : Met l yX7_breaks [.code yX7_breaks cX7_breaks 5 (some .int)] ({ frames := 7, cells := zT - z, slots := 200 * (zT - z), locals := 164 } : Room) (zP D cy A S z [.ref x0, .int x1, .int x2, .int x3]) (zQ D cy A T zT (some (.int r))) (zT - z) (200 * (zT - z)) A := by
  have hm := mX7_breaks h
  refine z_metA (lv := [(0, .ref x0), (1, .int x1), (2, .int x2), (3, .int x3)]) (by decide) (Nat.le_of_ble_eq_true rfl) rfl ?_
  intro p e s m below meth c X hz H locs ls hH hS hl
  exact wX7_breaks_0 X (fun q hq => hA0 q (by rw [← hz]; exact hq)) (zz_s hm).1 (zz_s hm).2 h _ _ _ hH hS (lv_sub hl [0, 1, 2, 3] rfl)
set_option maxRecDepth 100000 in
set_option maxHeartbeats 4000000 in
theorem wX7_wordsUnlikeIn_38 {z : Nat} {N : Nat} {r : Int32} {T : zS} (X : zX D cy p s m meth c cX7_wordsUnlikeIn 5 RX7 (some .int)) {K12 : zS × Nat × Int32 × Int32 × Int32 × Int32 → Option (Int32 × zS)} (hK12 : ∀ (S : zS) (x0 : Nat) (x1 : Int32) (x2 : Int32) (x3 : Int32) (x4 : Int32), K12 (S, x0, x1, x2, x3, x4) = some (r, T) → zWt D cy A p l e { frames := 1, cells := 0, slots := 0, locals := 24 } s m args below meth c z 0 0 0 0 (zQ D cy A T z (some (.int r))) S 5 12 [(0, .ref x0), (1, .int x1), (2, .int x2), (3, .int x3), (4, .int x4)] []) {S : zS} {x0 : Nat} {x1 : Int32} {x2 : Int32} {x3 : Int32} {x4 : Int32} (h : rX7_wordsUnlikeIn_38 N K12 S x0 x1 x2 x3 x4 = some (r, T)) : zWt D cy A p l e { frames := 1, cells := 0, slots := 0, locals := 24 } s m args below meth c z 0 0 0 0 (zQ D cy A T z (some (.int r))) S 5 38 [(0, .ref x0), (1, .int x1), (2, .int x2), (3, .int x3), (4, .int x4)] [] := by
  obtain ⟨hx, hb, hml, hown, hr, hlocks, hT⟩ := id X
  intro H locs ls hH hS hl
  unfold rX7_wordsUnlikeIn_38 at h
  refine lv_iinc (v := (x4 + (1 : Int32))) (lv' := [(4, .int (x4 + (1 : Int32))), (0, .ref x0), (1, .int x1), (2, .int x2), (3, .int x3)]) hx hb dX7_wordsUnlikeIn_38 hl (k := 4) rfl (z_ii (by decide) _) (by decide) rfl (fun ls hl => ?_)
  refine lv_goto (tgt := 12) hx hb dX7_wordsUnlikeIn_41 (by decide) ?_
  exact hK12 _ _ _ _ _ _ h _ _ _ hH hS (lv_sub hl [1, 2, 3, 4, 0] rfl)
set_option maxRecDepth 100000 in
set_option maxHeartbeats 4000000 in
theorem wX7_wordsUnlikeIn_12 {z : Nat} {N : Nat} {r : Int32} {T : zS} (X : zX D cy p s m meth c cX7_wordsUnlikeIn 5 RX7 (some .int)) {K12 : zS × Nat × Int32 × Int32 × Int32 × Int32 → Option (Int32 × zS)} (hK12 : ∀ (S : zS) (x0 : Nat) (x1 : Int32) (x2 : Int32) (x3 : Int32) (x4 : Int32), K12 (S, x0, x1, x2, x3, x4) = some (r, T) → zWt D cy A p l e { frames := 1, cells := 0, slots := 0, locals := 24 } s m args below meth c z 0 0 0 0 (zQ D cy A T z (some (.int r))) S 5 12 [(0, .ref x0), (1, .int x1), (2, .int x2), (3, .int x3), (4, .int x4)] []) {S : zS} {x0 : Nat} {x1 : Int32} {x2 : Int32} {x3 : Int32} {x4 : Int32} (h : rX7_wordsUnlikeIn_12 N K12 S x0 x1 x2 x3 x4 = some (r, T)) : zWt D cy A p l e { frames := 1, cells := 0, slots := 0, locals := 24 } s m args below meth c z 0 0 0 0 (zQ D cy A T z (some (.int r))) S 5 12 [(0, .ref x0), (1, .int x1), (2, .int x2), (3, .int x3), (4, .int x4)] [] := by
  obtain ⟨hx, hb, hml, hown, hr, hlocks, hT⟩ := id X
  intro H locs ls hH hS hl
  unfold rX7_wordsUnlikeIn_12 at h
  refine lv_iload hx hb dX7_wordsUnlikeIn_12 (lv_at hl 4 rfl) ?_
  refine lv_bipush (v := (8 : Int32)) hx hb dX7_wordsUnlikeIn_14 (by decide) ?_
  refine lv_icmp_ge (tgt := 44) hx hb dX7_wordsUnlikeIn_16 (by decide) (fun c => ?_) (fun c => ?_)
  · have h := (if_pos c).symm.trans h
    refine lv_iload_n hx hb dX7_wordsUnlikeIn_44 rfl (lv_at hl 3 rfl) ?_
    exact z_iret X hH hS h dX7_wordsUnlikeIn_45
  · have h := (if_neg c).symm.trans h
    refine lv_iload_n hx hb dX7_wordsUnlikeIn_19 rfl (lv_at hl 1 rfl) ?_
    refine lv_iload hx hb dX7_wordsUnlikeIn_20 (lv_at hl 4 rfl) ?_
    refine lv_iushr hx hb dX7_wordsUnlikeIn_22 (zush_eq _ _) ?_
    refine lv_iconst (v := (1 : Int32)) hx hb dX7_wordsUnlikeIn_23 (by decide) ?_
    refine lv_iand hx hb dX7_wordsUnlikeIn_24 ?_
    refine lv_if_eq (tgt := 38) hx hb dX7_wordsUnlikeIn_25 (by decide) (fun c => ?_) (fun c => ?_)
    · have h := (if_pos c).symm.trans h
      exact wX7_wordsUnlikeIn_38 X hK12 h _ _ _ hH hS (lv_sub hl [0, 1, 2, 3, 4] rfl)
    · have h := (if_neg c).symm.trans h
      refine lv_iload_n hx hb dX7_wordsUnlikeIn_28 rfl (lv_at hl 3 rfl) ?_
      refine lv_aload_n hx hb dX7_wordsUnlikeIn_29 rfl (lv_at hl 0 rfl) ?_
      refine lv_iload_n hx hb dX7_wordsUnlikeIn_30 rfl (lv_at hl 2 rfl) ?_
      refine lv_iload hx hb dX7_wordsUnlikeIn_31 (lv_at hl 4 rfl) ?_
      obtain ⟨u1, eu1, h⟩ := zb_some h
      obtain ⟨v3, S2, eS2, h⟩ := zb2_some h
      refine z_cV (As := [.int x2, .int x4]) X hl hH hS mlX7_103 eu1 (kX7_unlikeWords eS2) rfl rfl (Nat.le_of_ble_eq_true rfl) ⟨rfl, rfl, Nat.le_of_ble_eq_true rfl, Nat.le_of_ble_eq_true rfl⟩ ⟨Nat.le_refl _, Nat.le_refl _⟩ dX7_wordsUnlikeIn_33 (fun H locs hH hS => ?_)
      refine lv_ior hx hb dX7_wordsUnlikeIn_36 ?_
      refine lv_istore_n (lv' := [(3, .int (x3 ||| v3)), (0, .ref x0), (1, .int x1), (2, .int x2), (4, .int x4)]) hx hb dX7_wordsUnlikeIn_37 rfl hl (by decide) rfl (fun ls hl => ?_)
      exact wX7_wordsUnlikeIn_38 X hK12 h _ _ _ hH hS (lv_sub hl [1, 2, 3, 0, 4] rfl)
set_option maxRecDepth 100000 in
set_option maxHeartbeats 4000000 in
theorem uX7_wordsUnlikeIn_12 {z : Nat} {N : Nat} {r : Int32} {T : zS} (X : zX D cy p s m meth c cX7_wordsUnlikeIn 5 RX7 (some .int))  {S : zS} {x0 : Nat} {x1 : Int32} {x2 : Int32} {x3 : Int32} {x4 : Int32} (h : rlX7_wordsUnlikeIn_12 N S x0 x1 x2 x3 x4 = some (r, T)) : zWt D cy A p l e { frames := 1, cells := 0, slots := 0, locals := 24 } s m args below meth c z 0 0 0 0 (zQ D cy A T z (some (.int r))) S 5 12 [(0, .ref x0), (1, .int x1), (2, .int x2), (3, .int x3), (4, .int x4)] [] := by
  unfold rlX7_wordsUnlikeIn_12 at h
  refine zloop_ind (P := fun y => zWt D cy A p l e { frames := 1, cells := 0, slots := 0, locals := 24 } s m args below meth c z 0 0 0 0 (zQ D cy A T z (some (.int r))) y.1 5 12 [(0, .ref y.2.1), (1, .int y.2.2.1), (2, .int y.2.2.2.1), (3, .int y.2.2.2.2.1), (4, .int y.2.2.2.2.2)] []) ?_ N (S, x0, x1, x2, x3, x4) h
  intro K hK y hy
  obtain ⟨S, x0, x1, x2, x3, x4⟩ := y
  exact wX7_wordsUnlikeIn_12 X (fun S x0 x1 x2 x3 x4 hq => hK (S, x0, x1, x2, x3, x4) hq) hy
set_option maxRecDepth 100000 in
set_option maxHeartbeats 4000000 in
theorem wX7_wordsUnlikeIn_0 {z : Nat} {N : Nat} {r : Int32} {T : zS} (X : zX D cy p s m meth c cX7_wordsUnlikeIn 5 RX7 (some .int))  {S : zS} {x0 : Nat} {x1 : Int32} (h : rX7_wordsUnlikeIn_0 N S x0 x1 = some (r, T)) : zWt D cy A p l e { frames := 1, cells := 0, slots := 0, locals := 24 } s m args below meth c z 0 0 0 0 (zQ D cy A T z (some (.int r))) S 5 0 [(0, .ref x0), (1, .int x1)] [] := by
  obtain ⟨hx, hb, hml, hown, hr, hlocks, hT⟩ := id X
  intro H locs ls hH hS hl
  unfold rX7_wordsUnlikeIn_0 at h
  refine lv_iload_n hx hb dX7_wordsUnlikeIn_0 rfl (lv_at hl 1 rfl) ?_
  obtain ⟨v5, S4, eS4, h⟩ := zb2_some h
  refine z_cS (As := [.int x1]) X hl hH hS mlX7_245 (kJ6_numberOfTrailingZeros_0f7a4 eS4) rfl rfl (Nat.le_of_ble_eq_true rfl) ⟨rfl, rfl, Nat.le_of_ble_eq_true rfl, Nat.le_of_ble_eq_true rfl⟩ ⟨Nat.le_refl _, Nat.le_refl _⟩ dX7_wordsUnlikeIn_1 (fun H locs hH hS => ?_)
  refine lv_istore_n (lv' := [(2, .int v5), (0, .ref x0), (1, .int x1)]) hx hb dX7_wordsUnlikeIn_4 rfl hl (by decide) rfl (fun ls hl => ?_)
  refine lv_iconst (v := (0 : Int32)) hx hb dX7_wordsUnlikeIn_5 (by decide) ?_
  refine lv_istore_n (lv' := [(3, .int (0 : Int32)), (2, .int v5), (0, .ref x0), (1, .int x1)]) hx hb dX7_wordsUnlikeIn_6 rfl hl (by decide) rfl (fun ls hl => ?_)
  refine lv_iload_n hx hb dX7_wordsUnlikeIn_7 rfl (lv_at hl 1 rfl) ?_
  refine lv_iconst (v := (1 : Int32)) hx hb dX7_wordsUnlikeIn_8 (by decide) ?_
  refine lv_iadd hx hb dX7_wordsUnlikeIn_9 ?_
  refine lv_istore (lv' := [(4, .int (v5 + (1 : Int32))), (3, .int (0 : Int32)), (2, .int v5), (0, .ref x0), (1, .int x1)]) hx hb dX7_wordsUnlikeIn_10 hl (by decide) rfl (fun ls hl => ?_)
  exact uX7_wordsUnlikeIn_12 X h _ _ _ hH hS (lv_sub hl [3, 4, 2, 1, 0] rfl)
set_option maxRecDepth 100000 in
theorem kX7_wordsUnlikeIn {N : Nat} {r : Int32} {T : zS} {S : zS} {z : Nat} {x0 : Nat} {x1 : Int32} (h : rX7_wordsUnlikeIn N S x0 x1 = some (r, T)) : Met l yX7_wordsUnlikeIn [.code yX7_wordsUnlikeIn cX7_wordsUnlikeIn 5 (some .int)] { frames := 1, cells := 0, slots := 0, locals := 24 } (zP D cy A S z [.ref x0, .int x1]) (zQ D cy A T z (some (.int r))) 0 0 A := by
  refine z_met (lv := [(0, .ref x0), (1, .int x1)]) (by decide) (Nat.le_of_ble_eq_true rfl) rfl ?_
  intro p e s m below meth c X H locs ls hH hS hl
  exact wX7_wordsUnlikeIn_0 X h _ _ _ hH hS (lv_sub hl [0, 1] rfl)
set_option maxRecDepth 100000 in
set_option maxHeartbeats 4000000 in
theorem wX7_rooms_101 {N : Nat} {MC MS zT : Nat} {r : Int32} {T : zS} (X : zX D cy p s m meth c cX7_rooms 6 RX7 (some .int)) (hA : ∀ q : Nat, s.heap.size ≤ q → A q) {K56 : zS × Nat × Nat × Int32 × Int32 × Int32 → Option (Int32 × zS × Nat)} (hK56 : ∀ (S : zS) (z : Nat) (x0 : Nat) (x2 : Int32) (x3 : Int32) (x4 : Int32) (q : Nat) (w : Nat), q + zT ≤ MC + z → w + 200 * zT ≤ MS + 200 * z → K56 (S, z, x0, x2, x3, x4) = some (r, T, zT) → zWt D cy A p l e ({ frames := 6, cells := MC, slots := MS, locals := 139 } : Room) s m args below meth c z q w MC MS (zQ D cy A T zT (some (.int r))) S 6 56 [(0, .ref x0), (2, .int x2), (3, .int x3), (4, .int x4)] []) {K66 : zS × Nat × Nat × Int32 × Int32 × Int32 × Int32 → Option (Int32 × zS × Nat)} (hK66 : ∀ (S : zS) (z : Nat) (x0 : Nat) (x2 : Int32) (x3 : Int32) (x4 : Int32) (x5 : Int32) (q : Nat) (w : Nat), q + zT ≤ MC + z → w + 200 * zT ≤ MS + 200 * z → K66 (S, z, x0, x2, x3, x4, x5) = some (r, T, zT) → zWt D cy A p l e ({ frames := 6, cells := MC, slots := MS, locals := 139 } : Room) s m args below meth c z q w MC MS (zQ D cy A T zT (some (.int r))) S 6 66 [(0, .ref x0), (2, .int x2), (3, .int x3), (4, .int x4), (5, .int x5)] []) {S : zS} {z : Nat} {x0 : Nat} {x2 : Int32} {x3 : Int32} {x4 : Int32} {x5 : Int32} {q w : Nat} (hq : q + zT ≤ MC + z) (hw : w + 200 * zT ≤ MS + 200 * z) (h : rX7_rooms_101 N K56 K66 S z x0 x2 x3 x4 x5 = some (r, T, zT)) : zWt D cy A p l e ({ frames := 6, cells := MC, slots := MS, locals := 139 } : Room) s m args below meth c z q w MC MS (zQ D cy A T zT (some (.int r))) S 6 101 [(0, .ref x0), (2, .int x2), (3, .int x3), (4, .int x4), (5, .int x5)] [] := by
  obtain ⟨hx, hb, hml, hown, hr, hlocks, hT⟩ := id X
  intro H locs ls hH hS hl
  unfold rX7_rooms_101 at h
  obtain ⟨h, hz⟩ := zgeI_some h
  refine lv_iinc (v := (x5 + (1 : Int32))) (lv' := [(5, .int (x5 + (1 : Int32))), (0, .ref x0), (2, .int x2), (3, .int x3), (4, .int x4)]) hx hb dX7_rooms_101 hl (k := 4) rfl (z_ii (by decide) _) (by decide) rfl (fun ls hl => ?_)
  refine lv_goto (tgt := 66) hx hb dX7_rooms_104 (by decide) ?_
  exact hK66 _ _ _ _ _ _ _ _ _ hq hw h _ _ _ hH hS (lv_sub hl [1, 2, 3, 4, 0] rfl)
set_option maxRecDepth 100000 in
set_option maxHeartbeats 4000000 in
theorem wX7_rooms_66 {N : Nat} {MC MS zT : Nat} {r : Int32} {T : zS} (X : zX D cy p s m meth c cX7_rooms 6 RX7 (some .int)) (hA : ∀ q : Nat, s.heap.size ≤ q → A q) {K56 : zS × Nat × Nat × Int32 × Int32 × Int32 → Option (Int32 × zS × Nat)} (hK56 : ∀ (S : zS) (z : Nat) (x0 : Nat) (x2 : Int32) (x3 : Int32) (x4 : Int32) (q : Nat) (w : Nat), q + zT ≤ MC + z → w + 200 * zT ≤ MS + 200 * z → K56 (S, z, x0, x2, x3, x4) = some (r, T, zT) → zWt D cy A p l e ({ frames := 6, cells := MC, slots := MS, locals := 139 } : Room) s m args below meth c z q w MC MS (zQ D cy A T zT (some (.int r))) S 6 56 [(0, .ref x0), (2, .int x2), (3, .int x3), (4, .int x4)] []) {K66 : zS × Nat × Nat × Int32 × Int32 × Int32 × Int32 → Option (Int32 × zS × Nat)} (hK66 : ∀ (S : zS) (z : Nat) (x0 : Nat) (x2 : Int32) (x3 : Int32) (x4 : Int32) (x5 : Int32) (q : Nat) (w : Nat), q + zT ≤ MC + z → w + 200 * zT ≤ MS + 200 * z → K66 (S, z, x0, x2, x3, x4, x5) = some (r, T, zT) → zWt D cy A p l e ({ frames := 6, cells := MC, slots := MS, locals := 139 } : Room) s m args below meth c z q w MC MS (zQ D cy A T zT (some (.int r))) S 6 66 [(0, .ref x0), (2, .int x2), (3, .int x3), (4, .int x4), (5, .int x5)] []) {S : zS} {z : Nat} {x0 : Nat} {x2 : Int32} {x3 : Int32} {x4 : Int32} {x5 : Int32} {q w : Nat} (hq : q + zT ≤ MC + z) (hw : w + 200 * zT ≤ MS + 200 * z) (h : rX7_rooms_66 N K56 K66 S z x0 x2 x3 x4 x5 = some (r, T, zT)) : zWt D cy A p l e ({ frames := 6, cells := MC, slots := MS, locals := 139 } : Room) s m args below meth c z q w MC MS (zQ D cy A T zT (some (.int r))) S 6 66 [(0, .ref x0), (2, .int x2), (3, .int x3), (4, .int x4), (5, .int x5)] [] := by
  obtain ⟨hx, hb, hml, hown, hr, hlocks, hT⟩ := id X
  intro H locs ls hH hS hl
  unfold rX7_rooms_66 at h
  obtain ⟨h, hz⟩ := zgeI_some h
  refine lv_iload hx hb dX7_rooms_66 (lv_at hl 4 rfl) ?_
  refine lv_sipush (v := (255 : Int32)) hx hb dX7_rooms_68 (by decide) ?_
  refine lv_icmp_gt (tgt := 107) hx hb dX7_rooms_71 (by decide) (fun c => ?_) (fun c => ?_)
  · have h := (if_pos c).symm.trans h
    refine lv_iinc (v := (x4 + (1 : Int32))) (lv' := [(4, .int (x4 + (1 : Int32))), (0, .ref x0), (2, .int x2), (3, .int x3), (5, .int x5)]) hx hb dX7_rooms_107 hl (k := 3) rfl (z_ii (by decide) _) (by decide) rfl (fun ls hl => ?_)
    refine lv_goto (tgt := 56) hx hb dX7_rooms_110 (by decide) ?_
    exact hK56 _ _ _ _ _ _ _ _ hq hw h _ _ _ hH hS (lv_sub hl [1, 2, 3, 0] rfl)
  · have h := (if_neg c).symm.trans h
    refine lv_iload hx hb dX7_rooms_74 (lv_at hl 4 rfl) ?_
    refine lv_iload_n hx hb dX7_rooms_76 rfl (lv_at hl 1 rfl) ?_
    refine lv_iload hx hb dX7_rooms_77 (lv_at hl 3 rfl) ?_
    obtain ⟨v2, S1, eS1, h⟩ := zb2_some h
    refine z_cS (As := [.int x5, .int x2, .int x4]) X hl hH hS mlX7_202 (kX7_isPart eS1) rfl rfl (Nat.le_of_ble_eq_true rfl) ⟨rfl, rfl, Nat.le_of_ble_eq_true rfl, Nat.le_of_ble_eq_true rfl⟩ (zz_0 hq hw hz) dX7_rooms_79 (fun H locs hH hS => ?_)
    refine lv_if_eq (tgt := 101) hx hb dX7_rooms_82 (by decide) (fun c => ?_) (fun c => ?_)
    · have h := (if_pos c).symm.trans h
      exact wX7_rooms_101 X hA hK56 hK66 hq hw h _ _ _ hH hS (lv_sub hl [0, 1, 2, 3, 4] rfl)
    · have h := (if_neg c).symm.trans h
      refine lv_iload_n hx hb dX7_rooms_85 rfl (lv_at hl 2 rfl) ?_
      refine lv_aload_n hx hb dX7_rooms_86 rfl (lv_at hl 0 rfl) ?_
      refine lv_iload hx hb dX7_rooms_87 (lv_at hl 4 rfl) ?_
      obtain ⟨u3, eu3, h⟩ := zb_some h
      obtain ⟨v5, S4, eS4, h⟩ := zb2_some h
      refine z_cV (As := [.int x5]) X hl hH hS mlX7_214 eu3 (kX7_wordsUnlikeIn eS4) rfl rfl (Nat.le_of_ble_eq_true rfl) ⟨rfl, rfl, Nat.le_of_ble_eq_true rfl, Nat.le_of_ble_eq_true rfl⟩ (zz_0 hq hw hz) dX7_rooms_89 (fun H locs hH hS => ?_)
      refine lv_iconst (v := (-1 : Int32)) hx hb dX7_rooms_92 (by decide) ?_
      refine lv_ixor hx hb dX7_rooms_93 ?_
      refine lv_iand hx hb dX7_rooms_94 ?_
      refine lv_if_ne (tgt := 101) hx hb dX7_rooms_95 (by decide) (fun c => ?_) (fun c => ?_)
      · have h := (if_neg c).symm.trans h
        exact wX7_rooms_101 X hA hK56 hK66 hq hw h _ _ _ hH hS (lv_sub hl [0, 1, 2, 3, 4] rfl)
      · have h := (if_pos c).symm.trans h
        refine lv_iload hx hb dX7_rooms_98 (lv_at hl 4 rfl) ?_
        exact z_iretZ X hH hS h hq hw dX7_rooms_100
set_option maxRecDepth 100000 in
set_option maxHeartbeats 4000000 in
theorem uX7_rooms_66 {N : Nat} {MC MS zT : Nat} {r : Int32} {T : zS} (X : zX D cy p s m meth c cX7_rooms 6 RX7 (some .int)) (hA : ∀ q : Nat, s.heap.size ≤ q → A q) {K56 : zS × Nat × Nat × Int32 × Int32 × Int32 → Option (Int32 × zS × Nat)} (hK56 : ∀ (S : zS) (z : Nat) (x0 : Nat) (x2 : Int32) (x3 : Int32) (x4 : Int32) (q : Nat) (w : Nat), q + zT ≤ MC + z → w + 200 * zT ≤ MS + 200 * z → K56 (S, z, x0, x2, x3, x4) = some (r, T, zT) → zWt D cy A p l e ({ frames := 6, cells := MC, slots := MS, locals := 139 } : Room) s m args below meth c z q w MC MS (zQ D cy A T zT (some (.int r))) S 6 56 [(0, .ref x0), (2, .int x2), (3, .int x3), (4, .int x4)] []) {S : zS} {z : Nat} {x0 : Nat} {x2 : Int32} {x3 : Int32} {x4 : Int32} {x5 : Int32} {q w : Nat} (hq : q + zT ≤ MC + z) (hw : w + 200 * zT ≤ MS + 200 * z) (h : rlX7_rooms_66 N K56 S z x0 x2 x3 x4 x5 = some (r, T, zT)) : zWt D cy A p l e ({ frames := 6, cells := MC, slots := MS, locals := 139 } : Room) s m args below meth c z q w MC MS (zQ D cy A T zT (some (.int r))) S 6 66 [(0, .ref x0), (2, .int x2), (3, .int x3), (4, .int x4), (5, .int x5)] [] := by
  unfold rlX7_rooms_66 at h
  refine zloop_ind (P := fun y => ∀ (q : Nat) (w : Nat), q + zT ≤ MC + y.2.1 → w + 200 * zT ≤ MS + 200 * y.2.1 → zWt D cy A p l e ({ frames := 6, cells := MC, slots := MS, locals := 139 } : Room) s m args below meth c y.2.1 q w MC MS (zQ D cy A T zT (some (.int r))) y.1 6 66 [(0, .ref y.2.2.1), (2, .int y.2.2.2.1), (3, .int y.2.2.2.2.1), (4, .int y.2.2.2.2.2.1), (5, .int y.2.2.2.2.2.2)] []) ?_ N (S, z, x0, x2, x3, x4, x5) h _ _ hq hw
  intro K hK y hy q w hq hw
  obtain ⟨S, z, x0, x2, x3, x4, x5⟩ := y
  exact wX7_rooms_66 X hA hK56 (fun S z x0 x2 x3 x4 x5 q w hq hw h => hK (S, z, x0, x2, x3, x4, x5) h q w hq hw) hq hw hy
set_option maxRecDepth 100000 in
set_option maxHeartbeats 4000000 in
theorem wX7_rooms_56 {N : Nat} {MC MS zT : Nat} {r : Int32} {T : zS} (X : zX D cy p s m meth c cX7_rooms 6 RX7 (some .int)) (hA : ∀ q : Nat, s.heap.size ≤ q → A q) {K56 : zS × Nat × Nat × Int32 × Int32 × Int32 → Option (Int32 × zS × Nat)} (hK56 : ∀ (S : zS) (z : Nat) (x0 : Nat) (x2 : Int32) (x3 : Int32) (x4 : Int32) (q : Nat) (w : Nat), q + zT ≤ MC + z → w + 200 * zT ≤ MS + 200 * z → K56 (S, z, x0, x2, x3, x4) = some (r, T, zT) → zWt D cy A p l e ({ frames := 6, cells := MC, slots := MS, locals := 139 } : Room) s m args below meth c z q w MC MS (zQ D cy A T zT (some (.int r))) S 6 56 [(0, .ref x0), (2, .int x2), (3, .int x3), (4, .int x4)] []) {S : zS} {z : Nat} {x0 : Nat} {x2 : Int32} {x3 : Int32} {x4 : Int32} {q w : Nat} (hq : q + zT ≤ MC + z) (hw : w + 200 * zT ≤ MS + 200 * z) (h : rX7_rooms_56 N K56 S z x0 x2 x3 x4 = some (r, T, zT)) : zWt D cy A p l e ({ frames := 6, cells := MC, slots := MS, locals := 139 } : Room) s m args below meth c z q w MC MS (zQ D cy A T zT (some (.int r))) S 6 56 [(0, .ref x0), (2, .int x2), (3, .int x3), (4, .int x4)] [] := by
  obtain ⟨hx, hb, hml, hown, hr, hlocks, hT⟩ := id X
  intro H locs ls hH hS hl
  unfold rX7_rooms_56 at h
  obtain ⟨h, hz⟩ := zgeI_some h
  refine lv_iload hx hb dX7_rooms_56 (lv_at hl 3 rfl) ?_
  refine lv_bipush (v := (8 : Int32)) hx hb dX7_rooms_58 (by decide) ?_
  refine lv_icmp_gt (tgt := 113) hx hb dX7_rooms_60 (by decide) (fun c => ?_) (fun c => ?_)
  · have h := (if_pos c).symm.trans h
    refine lv_bipush (v := (-2 : Int32)) hx hb dX7_rooms_113 (by decide) ?_
    exact z_iretZ X hH hS h hq hw dX7_rooms_115
  · have h := (if_neg c).symm.trans h
    refine lv_iconst (v := (1 : Int32)) hx hb dX7_rooms_63 (by decide) ?_
    refine lv_istore (lv' := [(5, .int (1 : Int32)), (0, .ref x0), (2, .int x2), (3, .int x3), (4, .int x4)]) hx hb dX7_rooms_64 hl (by decide) rfl (fun ls hl => ?_)
    exact uX7_rooms_66 X hA hK56 hq hw h _ _ _ hH hS (lv_sub hl [1, 2, 3, 4, 0] rfl)
set_option maxRecDepth 100000 in
set_option maxHeartbeats 4000000 in
theorem uX7_rooms_56 {N : Nat} {MC MS zT : Nat} {r : Int32} {T : zS} (X : zX D cy p s m meth c cX7_rooms 6 RX7 (some .int)) (hA : ∀ q : Nat, s.heap.size ≤ q → A q)  {S : zS} {z : Nat} {x0 : Nat} {x2 : Int32} {x3 : Int32} {x4 : Int32} {q w : Nat} (hq : q + zT ≤ MC + z) (hw : w + 200 * zT ≤ MS + 200 * z) (h : rlX7_rooms_56 N S z x0 x2 x3 x4 = some (r, T, zT)) : zWt D cy A p l e ({ frames := 6, cells := MC, slots := MS, locals := 139 } : Room) s m args below meth c z q w MC MS (zQ D cy A T zT (some (.int r))) S 6 56 [(0, .ref x0), (2, .int x2), (3, .int x3), (4, .int x4)] [] := by
  unfold rlX7_rooms_56 at h
  refine zloop_ind (P := fun y => ∀ (q : Nat) (w : Nat), q + zT ≤ MC + y.2.1 → w + 200 * zT ≤ MS + 200 * y.2.1 → zWt D cy A p l e ({ frames := 6, cells := MC, slots := MS, locals := 139 } : Room) s m args below meth c y.2.1 q w MC MS (zQ D cy A T zT (some (.int r))) y.1 6 56 [(0, .ref y.2.2.1), (2, .int y.2.2.2.1), (3, .int y.2.2.2.2.1), (4, .int y.2.2.2.2.2)] []) ?_ N (S, z, x0, x2, x3, x4) h _ _ hq hw
  intro K hK y hy q w hq hw
  obtain ⟨S, z, x0, x2, x3, x4⟩ := y
  exact wX7_rooms_56 X hA (fun S z x0 x2 x3 x4 q w hq hw h => hK (S, z, x0, x2, x3, x4) h q w hq hw) hq hw hy
set_option maxRecDepth 100000 in
set_option maxHeartbeats 4000000 in
theorem wX7_rooms_20 {N : Nat} {MC MS zT : Nat} {r : Int32} {T : zS} (X : zX D cy p s m meth c cX7_rooms 6 RX7 (some .int)) (hA : ∀ q : Nat, s.heap.size ≤ q → A q)  {S : zS} {z : Nat} {q w : Nat} (hq : q + zT ≤ MC + z) (hw : w + 200 * zT ≤ MS + 200 * z) (h : rX7_rooms_20 N S z = some (r, T, zT)) : zWt D cy A p l e ({ frames := 6, cells := MC, slots := MS, locals := 139 } : Room) s m args below meth c z q w MC MS (zQ D cy A T zT (some (.int r))) S 6 20 [] [] := by
  obtain ⟨hx, hb, hml, hown, hr, hlocks, hT⟩ := id X
  intro H locs ls hH hS hl
  unfold rX7_rooms_20 at h
  obtain ⟨h, hz⟩ := zgeI_some h
  refine lv_iconst (v := (-1 : Int32)) hx hb dX7_rooms_20 (by decide) ?_
  exact z_iretZ X hH hS h hq hw dX7_rooms_21
set_option maxRecDepth 100000 in
set_option maxHeartbeats 4000000 in
theorem wX7_rooms_0 {N : Nat} {MC MS zT : Nat} {r : Int32} {T : zS} (X : zX D cy p s m meth c cX7_rooms 6 RX7 (some .int)) (hA : ∀ q : Nat, s.heap.size ≤ q → A q)  {S : zS} {z : Nat} {x0 : Nat} {x1 : Int32} {x2 : Int32} {q w : Nat} (hq : q + zT ≤ MC + z) (hw : w + 200 * zT ≤ MS + 200 * z) (h : rX7_rooms_0 N S z x0 x1 x2 = some (r, T, zT)) : zWt D cy A p l e ({ frames := 6, cells := MC, slots := MS, locals := 139 } : Room) s m args below meth c z q w MC MS (zQ D cy A T zT (some (.int r))) S 6 0 [(0, .ref x0), (1, .int x1), (2, .int x2)] [] := by
  obtain ⟨hx, hb, hml, hown, hr, hlocks, hT⟩ := id X
  intro H locs ls hH hS hl
  unfold rX7_rooms_0 at h
  obtain ⟨h, hz⟩ := zgeI_some h
  refine lv_aload_n hx hb dX7_rooms_0 rfl (lv_at hl 0 rfl) ?_
  refine lv_iload_n hx hb dX7_rooms_1 rfl (lv_at hl 1 rfl) ?_
  obtain ⟨u6, eu6, h⟩ := zb_some h
  obtain ⟨v8, S7, eS7, h⟩ := zb2_some h
  refine z_cV (As := [.int x1]) X hl hH hS mlX7_122 eu6 (kX7_isStep eS7) rfl rfl (Nat.le_of_ble_eq_true rfl) ⟨rfl, rfl, Nat.le_of_ble_eq_true rfl, Nat.le_of_ble_eq_true rfl⟩ (zz_0 hq hw hz) dX7_rooms_2 (fun H locs hH hS => ?_)
  refine lv_if_eq (tgt := 20) hx hb dX7_rooms_5 (by decide) (fun c => ?_) (fun c => ?_)
  · have h := (if_pos c).symm.trans h
    exact wX7_rooms_20 X hA hq hw h _ _ _ hH hS (lv_sub hl [] rfl)
  · have h := (if_neg c).symm.trans h
    refine lv_iload_n hx hb dX7_rooms_8 rfl (lv_at hl 2 rfl) ?_
    refine lv_iconst (v := (1 : Int32)) hx hb dX7_rooms_9 (by decide) ?_
    refine lv_icmp_lt (tgt := 20) hx hb dX7_rooms_10 (by decide) (fun c => ?_) (fun c => ?_)
    · have h := (if_pos c).symm.trans h
      exact wX7_rooms_20 X hA hq hw h _ _ _ hH hS (lv_sub hl [] rfl)
    · have h := (if_neg c).symm.trans h
      refine lv_iload_n hx hb dX7_rooms_13 rfl (lv_at hl 2 rfl) ?_
      refine lv_sipush (v := (255 : Int32)) hx hb dX7_rooms_14 (by decide) ?_
      refine lv_icmp_le (tgt := 22) hx hb dX7_rooms_17 (by decide) (fun c => ?_) (fun c => ?_)
      · have h := (if_pos c).symm.trans h
        refine lv_aload_n hx hb dX7_rooms_22 rfl (lv_at hl 0 rfl) ?_
        obtain ⟨v9, ev9, h⟩ := zb_some h
        refine z_getr X flX7_33 hH ev9 dX7_rooms_23 ?_
        refine lv_aload_n hx hb dX7_rooms_26 rfl (lv_at hl 0 rfl) ?_
        obtain ⟨v10, ev10, h⟩ := zb_some h
        refine z_getr X flX7_25 hH ev10 dX7_rooms_27 ?_
        refine lv_iconst (v := (0 : Int32)) hx hb dX7_rooms_30 (by decide) ?_
        obtain ⟨v11, ev11, h⟩ := zb_some h
        refine z_aald X hH 13 (by decide) ev11 dX7_rooms_31 ?_
        refine lv_iload_n hx hb dX7_rooms_32 rfl (lv_at hl 1 rfl) ?_
        obtain ⟨u12, eu12, h⟩ := zb_some h
        obtain ⟨S13, z14, eS13, h⟩ := zb2_some h
        obtain ⟨h, hzz14⟩ := zgeI_some h
        have hmz14 := mX1_makeIn eS13
        refine z_cV (As := [.ref v11, .int x1]) X hl hH hS mlX7_138 eu12 (kX1_makeIn (fun q h => hA q (Nat.le_trans (Nat.le_trans hS.1.1 (Nat.le_of_eq hS.2)) h)) eS13) rfl rfl (Nat.le_of_ble_eq_true rfl) ⟨rfl, rfl, Nat.le_of_ble_eq_true rfl, Nat.le_of_ble_eq_true rfl⟩ (zz_f hq hw hmz14 hzz14) dX7_rooms_33 (fun H locs hH hS => ?_)
        obtain ⟨hq, hw⟩ := zz_q hq hw hmz14
        have hz := hzz14
        refine lv_aload_n hx hb dX7_rooms_36 rfl (lv_at hl 0 rfl) ?_
        obtain ⟨v15, ev15, h⟩ := zb_some h
        refine z_getr X flX7_33 hH ev15 dX7_rooms_37 ?_
        refine lv_aload_n hx hb dX7_rooms_40 rfl (lv_at hl 0 rfl) ?_
        obtain ⟨v16, ev16, h⟩ := zb_some h
        refine z_getr X flX7_19 hH ev16 dX7_rooms_41 ?_
        obtain ⟨v17, ev17, h⟩ := zb_some h
        refine z_getr X flX7_153 hH ev17 dX7_rooms_44 ?_
        refine lv_iload_n hx hb dX7_rooms_47 rfl (lv_at hl 1 rfl) ?_
        obtain ⟨v18, ev18, h⟩ := zb_some h
        refine z_iald X hH ev18 dX7_rooms_48 ?_
        obtain ⟨u19, eu19, h⟩ := zb_some h
        obtain ⟨v21, S20, eS20, h⟩ := zb2_some h
        refine z_cV (As := [.int v18]) X hl hH hS mlX7_156 eu19 (kX1_wordsRead eS20) rfl rfl (Nat.le_of_ble_eq_true rfl) ⟨rfl, rfl, Nat.le_of_ble_eq_true rfl, Nat.le_of_ble_eq_true rfl⟩ (zz_0 hq hw hz) dX7_rooms_49 (fun H locs hH hS => ?_)
        refine lv_istore_n (lv' := [(3, .int v21), (0, .ref x0), (1, .int x1), (2, .int x2)]) hx hb dX7_rooms_52 rfl hl (by decide) rfl (fun ls hl => ?_)
        refine lv_iconst (v := (1 : Int32)) hx hb dX7_rooms_53 (by decide) ?_
        refine lv_istore (lv' := [(4, .int (1 : Int32)), (3, .int v21), (0, .ref x0), (1, .int x1), (2, .int x2)]) hx hb dX7_rooms_54 hl (by decide) rfl (fun ls hl => ?_)
        exact uX7_rooms_56 X hA hq hw h _ _ _ hH hS (lv_sub hl [2, 4, 1, 0] rfl)
      · have h := (if_neg c).symm.trans h
        exact wX7_rooms_20 X hA hq hw h _ _ _ hH hS (lv_sub hl [] rfl)
theorem mX7_rooms {N : Nat} {zT : Nat} {r : Int32} {T : zS} {S : zS} {z : Nat} {x0 : Nat} {x1 : Int32} {x2 : Int32} (h : rX7_rooms N S z x0 x1 x2 = some (r, T, zT)) : z ≤ zT := by
  unfold rX7_rooms rX7_rooms_0 at h
  exact (zgeI_some h).2
set_option maxRecDepth 100000 in
theorem kX7_rooms {N : Nat} {zT : Nat} {r : Int32} {T : zS} {S : zS} {z : Nat} {x0 : Nat} {x1 : Int32} {x2 : Int32} (hA0 : ∀ q : Nat, z ≤ q → A q) (h : rX7_rooms N S z x0 x1 x2 = some (r, T, zT)) : Met l yX7_rooms [.code yX7_rooms cX7_rooms 6 (some .int)] ({ frames := 6, cells := zT - z, slots := 200 * (zT - z), locals := 139 } : Room) (zP D cy A S z [.ref x0, .int x1, .int x2]) (zQ D cy A T zT (some (.int r))) (zT - z) (200 * (zT - z)) A := by
  have hm := mX7_rooms h
  refine z_metA (lv := [(0, .ref x0), (1, .int x1), (2, .int x2)]) (by decide) (Nat.le_of_ble_eq_true rfl) rfl ?_
  intro p e s m below meth c X hz H locs ls hH hS hl
  exact wX7_rooms_0 X (fun q hq => hA0 q (by rw [← hz]; exact hq)) (zz_s hm).1 (zz_s hm).2 h _ _ _ hH hS (lv_sub hl [0, 1, 2] rfl)
set_option maxRecDepth 100000 in
set_option maxHeartbeats 4000000 in
theorem wX7_isMaker_15 {z : Nat} {N : Nat} {r : Int32} {T : zS} (X : zX D cy p s m meth c cX7_isMaker 1 RX7 (some .boolean))  {S : zS} {y0 : Int32} (h : rX7_isMaker_15 N S y0 = some (r, T)) : zWt D cy A p l e { frames := 0, cells := 0, slots := 0, locals := 0 } s m args below meth c z 0 0 0 0 (zQ D cy A T z (some (.int r))) S 1 15 [] [.int y0] := by
  obtain ⟨hx, hb, hml, hown, hr, hlocks, hT⟩ := id X
  intro H locs ls hH hS hl
  unfold rX7_isMaker_15 at h
  exact z_zret X hH hS h dX7_isMaker_15
set_option maxRecDepth 100000 in
set_option maxHeartbeats 4000000 in
theorem wX7_isMaker_14 {z : Nat} {N : Nat} {r : Int32} {T : zS} (X : zX D cy p s m meth c cX7_isMaker 1 RX7 (some .boolean))  {S : zS} (h : rX7_isMaker_14 N S = some (r, T)) : zWt D cy A p l e { frames := 0, cells := 0, slots := 0, locals := 0 } s m args below meth c z 0 0 0 0 (zQ D cy A T z (some (.int r))) S 1 14 [] [] := by
  obtain ⟨hx, hb, hml, hown, hr, hlocks, hT⟩ := id X
  intro H locs ls hH hS hl
  unfold rX7_isMaker_14 at h
  refine lv_iconst (v := (0 : Int32)) hx hb dX7_isMaker_14 (by decide) ?_
  exact wX7_isMaker_15 X h _ _ _ hH hS (lv_sub hl [] rfl)
set_option maxRecDepth 100000 in
set_option maxHeartbeats 4000000 in
theorem wX7_isMaker_0 {z : Nat} {N : Nat} {r : Int32} {T : zS} (X : zX D cy p s m meth c cX7_isMaker 1 RX7 (some .boolean))  {S : zS} {x0 : Int32} (h : rX7_isMaker_0 N S x0 = some (r, T)) : zWt D cy A p l e { frames := 0, cells := 0, slots := 0, locals := 0 } s m args below meth c z 0 0 0 0 (zQ D cy A T z (some (.int r))) S 1 0 [(0, .int x0)] [] := by
  obtain ⟨hx, hb, hml, hown, hr, hlocks, hT⟩ := id X
  intro H locs ls hH hS hl
  unfold rX7_isMaker_0 at h
  refine lv_iload_n hx hb dX7_isMaker_0 rfl (lv_at hl 0 rfl) ?_
  refine lv_if_lt (tgt := 14) hx hb dX7_isMaker_1 (by decide) (fun c => ?_) (fun c => ?_)
  · have h := (if_pos c).symm.trans h
    exact wX7_isMaker_14 X h _ _ _ hH hS (lv_sub hl [] rfl)
  · have h := (if_neg c).symm.trans h
    refine lv_iload_n hx hb dX7_isMaker_4 rfl (lv_at hl 0 rfl) ?_
    refine lv_bipush (v := (30 : Int32)) hx hb dX7_isMaker_5 (by decide) ?_
    refine lv_icmp_ge (tgt := 14) hx hb dX7_isMaker_7 (by decide) (fun c => ?_) (fun c => ?_)
    · have h := (if_pos c).symm.trans h
      exact wX7_isMaker_14 X h _ _ _ hH hS (lv_sub hl [] rfl)
    · have h := (if_neg c).symm.trans h
      refine lv_iconst (v := (1 : Int32)) hx hb dX7_isMaker_10 (by decide) ?_
      refine lv_goto (tgt := 15) hx hb dX7_isMaker_11 (by decide) ?_
      exact wX7_isMaker_15 X h _ _ _ hH hS (lv_sub hl [] rfl)
set_option maxRecDepth 100000 in
theorem kX7_isMaker {N : Nat} {r : Int32} {T : zS} {S : zS} {z : Nat} {x0 : Int32} (h : rX7_isMaker N S x0 = some (r, T)) : Met l yX7_isMaker [.code yX7_isMaker cX7_isMaker 1 (some .boolean)] { frames := 0, cells := 0, slots := 0, locals := 0 } (zP D cy A S z [.int x0]) (zQ D cy A T z (some (.int r))) 0 0 A := by
  refine z_met (lv := [(0, .int x0)]) (by decide) (Nat.le_of_ble_eq_true rfl) rfl ?_
  intro p e s m below meth c X H locs ls hH hS hl
  exact wX7_isMaker_0 X h _ _ _ hH hS (lv_sub hl [0] rfl)
set_option maxRecDepth 100000 in
set_option maxHeartbeats 4000000 in
theorem wX7_maker_57 {z : Nat} {N : Nat} {r : Int32} {T : zS} (X : zX D cy p s m meth c cX7_maker 4 RX7 (some .int))  {S : zS} {y0 : Nat} {y1 : Int32} {y2 : Int32} (h : rX7_maker_57 N S y0 y1 y2 = some (r, T)) : zWt D cy A p l e { frames := 1, cells := 0, slots := 0, locals := 21 } s m args below meth c z 0 0 0 0 (zQ D cy A T z (some (.int r))) S 4 57 [] [.int y2, .int y1, .ref y0] := by
  obtain ⟨hx, hb, hml, hown, hr, hlocks, hT⟩ := id X
  intro H locs ls hH hS hl
  unfold rX7_maker_57 at h
  obtain ⟨S1, eS1, h⟩ := zb_some h
  refine z_iast X hH hS eS1 dX7_maker_57 (fun H locs hH hS => ?_)
  refine lv_iconst (v := (1 : Int32)) hx hb dX7_maker_58 (by decide) ?_
  exact z_iret X hH hS h dX7_maker_59
set_option maxRecDepth 100000 in
set_option maxHeartbeats 4000000 in
theorem wX7_maker_29 {z : Nat} {N : Nat} {r : Int32} {T : zS} (X : zX D cy p s m meth c cX7_maker 4 RX7 (some .int))  {S : zS} {x0 : Nat} {x1 : Int32} {x2 : Int32} {x3 : Int32} (h : rX7_maker_29 N S x0 x1 x2 x3 = some (r, T)) : zWt D cy A p l e { frames := 1, cells := 0, slots := 0, locals := 21 } s m args below meth c z 0 0 0 0 (zQ D cy A T z (some (.int r))) S 4 29 [(0, .ref x0), (1, .int x1), (2, .int x2), (3, .int x3)] [] := by
  obtain ⟨hx, hb, hml, hown, hr, hlocks, hT⟩ := id X
  intro H locs ls hH hS hl
  unfold rX7_maker_29 at h
  refine lv_aload_n hx hb dX7_maker_29 rfl (lv_at hl 0 rfl) ?_
  obtain ⟨v2, ev2, h⟩ := zb_some h
  refine z_getr X flX7_57 hH ev2 dX7_maker_30 ?_
  obtain ⟨v3, ev3, h⟩ := zb_some h
  refine z_getr X flX7_220 hH ev3 dX7_maker_33 ?_
  refine lv_iload_n hx hb dX7_maker_36 rfl (lv_at hl 1 rfl) ?_
  refine lv_iload_n hx hb dX7_maker_37 rfl (lv_at hl 2 rfl) ?_
  obtain ⟨S4, eS4, h⟩ := zb_some h
  refine z_iast X hH hS eS4 dX7_maker_38 (fun H locs hH hS => ?_)
  refine lv_aload_n hx hb dX7_maker_39 rfl (lv_at hl 0 rfl) ?_
  obtain ⟨v5, ev5, h⟩ := zb_some h
  refine z_getr X flX7_57 hH ev5 dX7_maker_40 ?_
  obtain ⟨v6, ev6, h⟩ := zb_some h
  refine z_getr X flX7_223 hH ev6 dX7_maker_43 ?_
  refine lv_iload_n hx hb dX7_maker_46 rfl (lv_at hl 1 rfl) ?_
  refine lv_iload_n hx hb dX7_maker_47 rfl (lv_at hl 2 rfl) ?_
  refine lv_iconst (v := (-1 : Int32)) hx hb dX7_maker_48 (by decide) ?_
  refine lv_icmp_ne (tgt := 56) hx hb dX7_maker_49 (by decide) (fun c => ?_) (fun c => ?_)
  · have h := (if_neg c).symm.trans h
    refine lv_iload_n hx hb dX7_maker_56 rfl (lv_at hl 3 rfl) ?_
    exact wX7_maker_57 X h _ _ _ hH hS (lv_sub hl [] rfl)
  · have h := (if_pos c).symm.trans h
    refine lv_iconst (v := (0 : Int32)) hx hb dX7_maker_52 (by decide) ?_
    refine lv_goto (tgt := 57) hx hb dX7_maker_53 (by decide) ?_
    exact wX7_maker_57 X h _ _ _ hH hS (lv_sub hl [] rfl)
set_option maxRecDepth 100000 in
set_option maxHeartbeats 4000000 in
theorem wX7_maker_27 {z : Nat} {N : Nat} {r : Int32} {T : zS} (X : zX D cy p s m meth c cX7_maker 4 RX7 (some .int))  {S : zS} (h : rX7_maker_27 N S = some (r, T)) : zWt D cy A p l e { frames := 1, cells := 0, slots := 0, locals := 21 } s m args below meth c z 0 0 0 0 (zQ D cy A T z (some (.int r))) S 4 27 [] [] := by
  obtain ⟨hx, hb, hml, hown, hr, hlocks, hT⟩ := id X
  intro H locs ls hH hS hl
  unfold rX7_maker_27 at h
  refine lv_iconst (v := (-1 : Int32)) hx hb dX7_maker_27 (by decide) ?_
  exact z_iret X hH hS h dX7_maker_28
set_option maxRecDepth 100000 in
set_option maxHeartbeats 4000000 in
theorem wX7_maker_0 {z : Nat} {N : Nat} {r : Int32} {T : zS} (X : zX D cy p s m meth c cX7_maker 4 RX7 (some .int))  {S : zS} {x0 : Nat} {x1 : Int32} {x2 : Int32} {x3 : Int32} (h : rX7_maker_0 N S x0 x1 x2 x3 = some (r, T)) : zWt D cy A p l e { frames := 1, cells := 0, slots := 0, locals := 21 } s m args below meth c z 0 0 0 0 (zQ D cy A T z (some (.int r))) S 4 0 [(0, .ref x0), (1, .int x1), (2, .int x2), (3, .int x3)] [] := by
  obtain ⟨hx, hb, hml, hown, hr, hlocks, hT⟩ := id X
  intro H locs ls hH hS hl
  unfold rX7_maker_0 at h
  refine lv_iload_n hx hb dX7_maker_0 rfl (lv_at hl 1 rfl) ?_
  obtain ⟨v8, S7, eS7, h⟩ := zb2_some h
  refine z_cS (As := [.int x1]) X hl hH hS mlX7_217 (kX7_isMaker eS7) rfl rfl (Nat.le_of_ble_eq_true rfl) ⟨rfl, rfl, Nat.le_of_ble_eq_true rfl, Nat.le_of_ble_eq_true rfl⟩ ⟨Nat.le_refl _, Nat.le_refl _⟩ dX7_maker_1 (fun H locs hH hS => ?_)
  refine lv_if_eq (tgt := 27) hx hb dX7_maker_4 (by decide) (fun c => ?_) (fun c => ?_)
  · have h := (if_pos c).symm.trans h
    exact wX7_maker_27 X h _ _ _ hH hS (lv_sub hl [] rfl)
  · have h := (if_neg c).symm.trans h
    refine lv_iload_n hx hb dX7_maker_7 rfl (lv_at hl 2 rfl) ?_
    refine lv_iconst (v := (-1 : Int32)) hx hb dX7_maker_8 (by decide) ?_
    refine lv_icmp_eq (tgt := 29) hx hb dX7_maker_9 (by decide) (fun c => ?_) (fun c => ?_)
    · have h := (if_pos c).symm.trans h
      exact wX7_maker_29 X h _ _ _ hH hS (lv_sub hl [0, 1, 2, 3] rfl)
    · have h := (if_neg c).symm.trans h
      refine lv_iload_n hx hb dX7_maker_12 rfl (lv_at hl 2 rfl) ?_
      obtain ⟨v10, S9, eS9, h⟩ := zb2_some h
      refine z_cS (As := [.int x2]) X hl hH hS mlX7_217 (kX7_isMaker eS9) rfl rfl (Nat.le_of_ble_eq_true rfl) ⟨rfl, rfl, Nat.le_of_ble_eq_true rfl, Nat.le_of_ble_eq_true rfl⟩ ⟨Nat.le_refl _, Nat.le_refl _⟩ dX7_maker_13 (fun H locs hH hS => ?_)
      refine lv_if_eq (tgt := 27) hx hb dX7_maker_16 (by decide) (fun c => ?_) (fun c => ?_)
      · have h := (if_pos c).symm.trans h
        exact wX7_maker_27 X h _ _ _ hH hS (lv_sub hl [] rfl)
      · have h := (if_neg c).symm.trans h
        refine lv_aload_n hx hb dX7_maker_19 rfl (lv_at hl 0 rfl) ?_
        refine lv_iload_n hx hb dX7_maker_20 rfl (lv_at hl 3 rfl) ?_
        obtain ⟨u11, eu11, h⟩ := zb_some h
        obtain ⟨v13, S12, eS12, h⟩ := zb2_some h
        refine z_cV (As := [.int x3]) X hl hH hS mlX7_80 eu11 (kX7_isText eS12) rfl rfl (Nat.le_of_ble_eq_true rfl) ⟨rfl, rfl, Nat.le_of_ble_eq_true rfl, Nat.le_of_ble_eq_true rfl⟩ ⟨Nat.le_refl _, Nat.le_refl _⟩ dX7_maker_21 (fun H locs hH hS => ?_)
        refine lv_if_ne (tgt := 29) hx hb dX7_maker_24 (by decide) (fun c => ?_) (fun c => ?_)
        · have h := (if_neg c).symm.trans h
          exact wX7_maker_29 X h _ _ _ hH hS (lv_sub hl [0, 1, 2, 3] rfl)
        · have h := (if_pos c).symm.trans h
          exact wX7_maker_27 X h _ _ _ hH hS (lv_sub hl [] rfl)
set_option maxRecDepth 100000 in
theorem kX7_maker {N : Nat} {r : Int32} {T : zS} {S : zS} {z : Nat} {x0 : Nat} {x1 : Int32} {x2 : Int32} {x3 : Int32} (h : rX7_maker N S x0 x1 x2 x3 = some (r, T)) : Met l yX7_maker [.code yX7_maker cX7_maker 4 (some .int)] { frames := 1, cells := 0, slots := 0, locals := 21 } (zP D cy A S z [.ref x0, .int x1, .int x2, .int x3]) (zQ D cy A T z (some (.int r))) 0 0 A := by
  refine z_met (lv := [(0, .ref x0), (1, .int x1), (2, .int x2), (3, .int x3)]) (by decide) (Nat.le_of_ble_eq_true rfl) rfl ?_
  intro p e s m below meth c X H locs ls hH hS hl
  exact wX7_maker_0 X h _ _ _ hH hS (lv_sub hl [0, 1, 2, 3] rfl)
set_option maxRecDepth 100000 in
set_option maxHeartbeats 4000000 in
theorem wX7_down_39 {z : Nat} {N : Nat} {r : Int32} {T : zS} (X : zX D cy p s m meth c cX7_down 2 RX7 (some .int))  {S : zS} {y0 : Int32} (h : rX7_down_39 N S y0 = some (r, T)) : zWt D cy A p l e { frames := 2, cells := 0, slots := 0, locals := 45 } s m args below meth c z 0 0 0 0 (zQ D cy A T z (some (.int r))) S 2 39 [] [.int y0] := by
  obtain ⟨hx, hb, hml, hown, hr, hlocks, hT⟩ := id X
  intro H locs ls hH hS hl
  unfold rX7_down_39 at h
  exact z_iret X hH hS h dX7_down_39
set_option maxRecDepth 100000 in
set_option maxHeartbeats 4000000 in
theorem wX7_down_0 {z : Nat} {N : Nat} {r : Int32} {T : zS} (X : zX D cy p s m meth c cX7_down 2 RX7 (some .int))  {S : zS} {x0 : Nat} {x1 : Int32} (h : rX7_down_0 N S x0 x1 = some (r, T)) : zWt D cy A p l e { frames := 2, cells := 0, slots := 0, locals := 45 } s m args below meth c z 0 0 0 0 (zQ D cy A T z (some (.int r))) S 2 0 [(0, .ref x0), (1, .int x1)] [] := by
  obtain ⟨hx, hb, hml, hown, hr, hlocks, hT⟩ := id X
  intro H locs ls hH hS hl
  unfold rX7_down_0 at h
  refine lv_iload_n hx hb dX7_down_0 rfl (lv_at hl 1 rfl) ?_
  obtain ⟨v2, S1, eS1, h⟩ := zb2_some h
  refine z_cS (As := [.int x1]) X hl hH hS mlX7_217 (kX7_isMaker eS1) rfl rfl (Nat.le_of_ble_eq_true rfl) ⟨rfl, rfl, Nat.le_of_ble_eq_true rfl, Nat.le_of_ble_eq_true rfl⟩ ⟨Nat.le_refl _, Nat.le_refl _⟩ dX7_down_1 (fun H locs hH hS => ?_)
  refine lv_if_ne (tgt := 9) hx hb dX7_down_4 (by decide) (fun c => ?_) (fun c => ?_)
  · have h := (if_neg c).symm.trans h
    refine lv_aload_n hx hb dX7_down_9 rfl (lv_at hl 0 rfl) ?_
    obtain ⟨v3, ev3, h⟩ := zb_some h
    refine z_getr X flX7_57 hH ev3 dX7_down_10 ?_
    refine lv_iload_n hx hb dX7_down_13 rfl (lv_at hl 1 rfl) ?_
    obtain ⟨u4, eu4, h⟩ := zb_some h
    obtain ⟨v6, S5, eS5, h⟩ := zb2_some h
    refine z_cV (As := [.int x1]) X hl hH hS mlX7_226 eu4 (kX2_ringStart eS5) rfl rfl (Nat.le_of_ble_eq_true rfl) ⟨rfl, rfl, Nat.le_of_ble_eq_true rfl, Nat.le_of_ble_eq_true rfl⟩ ⟨Nat.le_refl _, Nat.le_refl _⟩ dX7_down_14 (fun H locs hH hS => ?_)
    refine lv_iconst (v := (-1 : Int32)) hx hb dX7_down_17 (by decide) ?_
    refine lv_icmp_ne (tgt := 37) hx hb dX7_down_18 (by decide) (fun c => ?_) (fun c => ?_)
    · have h := (if_neg c).symm.trans h
      refine lv_bipush (v := (-5 : Int32)) hx hb dX7_down_37 (by decide) ?_
      exact wX7_down_39 X h _ _ _ hH hS (lv_sub hl [] rfl)
    · have h := (if_pos c).symm.trans h
      refine lv_aload_n hx hb dX7_down_21 rfl (lv_at hl 0 rfl) ?_
      obtain ⟨v7, ev7, h⟩ := zb_some h
      refine z_getr X flX7_57 hH ev7 dX7_down_22 ?_
      refine lv_iload_n hx hb dX7_down_25 rfl (lv_at hl 1 rfl) ?_
      obtain ⟨u8, eu8, h⟩ := zb_some h
      obtain ⟨v10, S9, eS9, h⟩ := zb2_some h
      refine z_cV (As := [.int x1]) X hl hH hS mlX7_229 eu8 (kX2_way eS9) rfl rfl (Nat.le_of_ble_eq_true rfl) ⟨rfl, rfl, Nat.le_of_ble_eq_true rfl, Nat.le_of_ble_eq_true rfl⟩ ⟨Nat.le_refl _, Nat.le_refl _⟩ dX7_down_26 (fun H locs hH hS => ?_)
      obtain ⟨v12, S11, eS11, h⟩ := zb2_some h
      refine z_cS (As := [.int v10]) X hl hH hS mlX7_107 (kJ6_bitCount_0f7a4 eS11) rfl rfl (Nat.le_of_ble_eq_true rfl) ⟨rfl, rfl, Nat.le_of_ble_eq_true rfl, Nat.le_of_ble_eq_true rfl⟩ ⟨Nat.le_refl _, Nat.le_refl _⟩ dX7_down_29 (fun H locs hH hS => ?_)
      refine lv_iconst (v := (1 : Int32)) hx hb dX7_down_32 (by decide) ?_
      refine lv_isub hx hb dX7_down_33 ?_
      refine lv_goto (tgt := 39) hx hb dX7_down_34 (by decide) ?_
      exact wX7_down_39 X h _ _ _ hH hS (lv_sub hl [] rfl)
  · have h := (if_pos c).symm.trans h
    refine lv_iconst (v := (-1 : Int32)) hx hb dX7_down_7 (by decide) ?_
    exact z_iret X hH hS h dX7_down_8
set_option maxRecDepth 100000 in
theorem kX7_down {N : Nat} {r : Int32} {T : zS} {S : zS} {z : Nat} {x0 : Nat} {x1 : Int32} (h : rX7_down N S x0 x1 = some (r, T)) : Met l yX7_down [.code yX7_down cX7_down 2 (some .int)] { frames := 2, cells := 0, slots := 0, locals := 45 } (zP D cy A S z [.ref x0, .int x1]) (zQ D cy A T z (some (.int r))) 0 0 A := by
  refine z_met (lv := [(0, .ref x0), (1, .int x1)]) (by decide) (Nat.le_of_ble_eq_true rfl) rfl ?_
  intro p e s m below meth c X H locs ls hH hS hl
  exact wX7_down_0 X h _ _ _ hH hS (lv_sub hl [0, 1] rfl)
set_option maxRecDepth 100000 in
set_option maxHeartbeats 4000000 in
theorem wX7_ring_58 {z : Nat} {N : Nat} {r : Int32} {T : zS} (X : zX D cy p s m meth c cX7_ring 4 RX7 (some .int))  {S : zS} {y0 : Int32} (h : rX7_ring_58 N S y0 = some (r, T)) : zWt D cy A p l e { frames := 2, cells := 0, slots := 0, locals := 45 } s m args below meth c z 0 0 0 0 (zQ D cy A T z (some (.int r))) S 4 58 [] [.int y0] := by
  obtain ⟨hx, hb, hml, hown, hr, hlocks, hT⟩ := id X
  intro H locs ls hH hS hl
  unfold rX7_ring_58 at h
  exact z_iret X hH hS h dX7_ring_58
set_option maxRecDepth 100000 in
set_option maxHeartbeats 4000000 in
theorem wX7_ring_57 {z : Nat} {N : Nat} {r : Int32} {T : zS} (X : zX D cy p s m meth c cX7_ring 4 RX7 (some .int))  {S : zS} (h : rX7_ring_57 N S = some (r, T)) : zWt D cy A p l e { frames := 2, cells := 0, slots := 0, locals := 45 } s m args below meth c z 0 0 0 0 (zQ D cy A T z (some (.int r))) S 4 57 [] [] := by
  obtain ⟨hx, hb, hml, hown, hr, hlocks, hT⟩ := id X
  intro H locs ls hH hS hl
  unfold rX7_ring_57 at h
  refine lv_iconst (v := (-1 : Int32)) hx hb dX7_ring_57 (by decide) ?_
  exact wX7_ring_58 X h _ _ _ hH hS (lv_sub hl [] rfl)
set_option maxRecDepth 100000 in
set_option maxHeartbeats 4000000 in
theorem wX7_ring_0 {z : Nat} {N : Nat} {r : Int32} {T : zS} (X : zX D cy p s m meth c cX7_ring 4 RX7 (some .int))  {S : zS} {x0 : Nat} {x1 : Int32} {x2 : Int32} (h : rX7_ring_0 N S x0 x1 x2 = some (r, T)) : zWt D cy A p l e { frames := 2, cells := 0, slots := 0, locals := 45 } s m args below meth c z 0 0 0 0 (zQ D cy A T z (some (.int r))) S 4 0 [(0, .ref x0), (1, .int x1), (2, .int x2)] [] := by
  obtain ⟨hx, hb, hml, hown, hr, hlocks, hT⟩ := id X
  intro H locs ls hH hS hl
  unfold rX7_ring_0 at h
  refine lv_iload_n hx hb dX7_ring_0 rfl (lv_at hl 1 rfl) ?_
  obtain ⟨v2, S1, eS1, h⟩ := zb2_some h
  refine z_cS (As := [.int x1]) X hl hH hS mlX7_217 (kX7_isMaker eS1) rfl rfl (Nat.le_of_ble_eq_true rfl) ⟨rfl, rfl, Nat.le_of_ble_eq_true rfl, Nat.le_of_ble_eq_true rfl⟩ ⟨Nat.le_refl _, Nat.le_refl _⟩ dX7_ring_1 (fun H locs hH hS => ?_)
  refine lv_if_ne (tgt := 9) hx hb dX7_ring_4 (by decide) (fun c => ?_) (fun c => ?_)
  · have h := (if_neg c).symm.trans h
    refine lv_aload_n hx hb dX7_ring_9 rfl (lv_at hl 0 rfl) ?_
    obtain ⟨v3, ev3, h⟩ := zb_some h
    refine z_getr X flX7_57 hH ev3 dX7_ring_10 ?_
    refine lv_iload_n hx hb dX7_ring_13 rfl (lv_at hl 1 rfl) ?_
    obtain ⟨u4, eu4, h⟩ := zb_some h
    obtain ⟨v6, S5, eS5, h⟩ := zb2_some h
    refine z_cV (As := [.int x1]) X hl hH hS mlX7_226 eu4 (kX2_ringStart eS5) rfl rfl (Nat.le_of_ble_eq_true rfl) ⟨rfl, rfl, Nat.le_of_ble_eq_true rfl, Nat.le_of_ble_eq_true rfl⟩ ⟨Nat.le_refl _, Nat.le_refl _⟩ dX7_ring_14 (fun H locs hH hS => ?_)
    refine lv_istore_n (lv' := [(3, .int v6), (0, .ref x0), (1, .int x1), (2, .int x2)]) hx hb dX7_ring_17 rfl hl (by decide) rfl (fun ls hl => ?_)
    refine lv_iload_n hx hb dX7_ring_18 rfl (lv_at hl 0 rfl) ?_
    refine lv_iconst (v := (-1 : Int32)) hx hb dX7_ring_19 (by decide) ?_
    refine lv_icmp_ne (tgt := 26) hx hb dX7_ring_20 (by decide) (fun c => ?_) (fun c => ?_)
    · have h := (if_neg c).symm.trans h
      refine lv_iload_n hx hb dX7_ring_26 rfl (lv_at hl 3 rfl) ?_
      refine lv_if_lt (tgt := 57) hx hb dX7_ring_27 (by decide) (fun c => ?_) (fun c => ?_)
      · have h := (if_pos c).symm.trans h
        exact wX7_ring_57 X h _ _ _ hH hS (lv_sub hl [] rfl)
      · have h := (if_neg c).symm.trans h
        refine lv_iload_n hx hb dX7_ring_30 rfl (lv_at hl 3 rfl) ?_
        refine lv_aload_n hx hb dX7_ring_31 rfl (lv_at hl 1 rfl) ?_
        obtain ⟨v7, ev7, h⟩ := zb_some h
        refine z_getr X flX7_57 hH ev7 dX7_ring_32 ?_
        refine lv_iload_n hx hb dX7_ring_35 rfl (lv_at hl 0 rfl) ?_
        obtain ⟨u8, eu8, h⟩ := zb_some h
        obtain ⟨v10, S9, eS9, h⟩ := zb2_some h
        refine z_cV (As := [.int v6]) X hl hH hS mlX7_229 eu8 (kX2_way eS9) rfl rfl (Nat.le_of_ble_eq_true rfl) ⟨rfl, rfl, Nat.le_of_ble_eq_true rfl, Nat.le_of_ble_eq_true rfl⟩ ⟨Nat.le_refl _, Nat.le_refl _⟩ dX7_ring_36 (fun H locs hH hS => ?_)
        obtain ⟨v12, S11, eS11, h⟩ := zb2_some h
        refine z_cS (As := [.int v10]) X hl hH hS mlX7_107 (kJ6_bitCount_0f7a4 eS11) rfl rfl (Nat.le_of_ble_eq_true rfl) ⟨rfl, rfl, Nat.le_of_ble_eq_true rfl, Nat.le_of_ble_eq_true rfl⟩ ⟨Nat.le_refl _, Nat.le_refl _⟩ dX7_ring_39 (fun H locs hH hS => ?_)
        refine lv_icmp_ge (tgt := 57) hx hb dX7_ring_42 (by decide) (fun c => ?_) (fun c => ?_)
        · have h := (if_pos c).symm.trans h
          exact wX7_ring_57 X h _ _ _ hH hS (lv_sub hl [] rfl)
        · have h := (if_neg c).symm.trans h
          refine lv_aload_n hx hb dX7_ring_45 rfl (lv_at hl 1 rfl) ?_
          obtain ⟨v13, ev13, h⟩ := zb_some h
          refine z_getr X flX7_57 hH ev13 dX7_ring_46 ?_
          refine lv_iload_n hx hb dX7_ring_49 rfl (lv_at hl 0 rfl) ?_
          refine lv_iload_n hx hb dX7_ring_50 rfl (lv_at hl 3 rfl) ?_
          obtain ⟨u14, eu14, h⟩ := zb_some h
          obtain ⟨v16, S15, eS15, h⟩ := zb2_some h
          refine z_cV (As := [.int v6, .int x2]) X hl hH hS mlX7_232 eu14 (kX2_after eS15) rfl rfl (Nat.le_of_ble_eq_true rfl) ⟨rfl, rfl, Nat.le_of_ble_eq_true rfl, Nat.le_of_ble_eq_true rfl⟩ ⟨Nat.le_refl _, Nat.le_refl _⟩ dX7_ring_51 (fun H locs hH hS => ?_)
          refine lv_goto (tgt := 58) hx hb dX7_ring_54 (by decide) ?_
          exact wX7_ring_58 X h _ _ _ hH hS (lv_sub hl [] rfl)
    · have h := (if_pos c).symm.trans h
      refine lv_bipush (v := (-2 : Int32)) hx hb dX7_ring_23 (by decide) ?_
      exact z_iret X hH hS h dX7_ring_25
  · have h := (if_pos c).symm.trans h
    refine lv_iconst (v := (-1 : Int32)) hx hb dX7_ring_7 (by decide) ?_
    exact z_iret X hH hS h dX7_ring_8
set_option maxRecDepth 100000 in
theorem kX7_ring {N : Nat} {r : Int32} {T : zS} {S : zS} {z : Nat} {x0 : Nat} {x1 : Int32} {x2 : Int32} (h : rX7_ring N S x0 x1 x2 = some (r, T)) : Met l yX7_ring [.code yX7_ring cX7_ring 4 (some .int)] { frames := 2, cells := 0, slots := 0, locals := 45 } (zP D cy A S z [.ref x0, .int x1, .int x2]) (zQ D cy A T z (some (.int r))) 0 0 A := by
  refine z_met (lv := [(0, .ref x0), (1, .int x1), (2, .int x2)]) (by decide) (Nat.le_of_ble_eq_true rfl) rfl ?_
  intro p e s m below meth c X H locs ls hH hS hl
  exact wX7_ring_0 X h _ _ _ hH hS (lv_sub hl [0, 1, 2] rfl)
set_option maxRecDepth 100000 in
set_option maxHeartbeats 4000000 in
theorem wX7_needs_49 {z : Nat} {N : Nat} {r : Int32} {T : zS} (X : zX D cy p s m meth c cX7_needs 4 RX7 (some .int))  {S : zS} {y0 : Int32} (h : rX7_needs_49 N S y0 = some (r, T)) : zWt D cy A p l e { frames := 1, cells := 0, slots := 0, locals := 24 } s m args below meth c z 0 0 0 0 (zQ D cy A T z (some (.int r))) S 4 49 [] [.int y0] := by
  obtain ⟨hx, hb, hml, hown, hr, hlocks, hT⟩ := id X
  intro H locs ls hH hS hl
  unfold rX7_needs_49 at h
  obtain ⟨v2, S1, eS1, h⟩ := zb2_some h
  refine z_cS (As := [.int y0]) X hl hH hS mlX7_107 (kJ6_bitCount_0f7a4 eS1) rfl rfl (Nat.le_of_ble_eq_true rfl) ⟨rfl, rfl, Nat.le_of_ble_eq_true rfl, Nat.le_of_ble_eq_true rfl⟩ ⟨Nat.le_refl _, Nat.le_refl _⟩ dX7_needs_49 (fun H locs hH hS => ?_)
  exact z_iret X hH hS h dX7_needs_52
set_option maxRecDepth 100000 in
set_option maxHeartbeats 4000000 in
theorem wX7_needs_14 {z : Nat} {N : Nat} {r : Int32} {T : zS} (X : zX D cy p s m meth c cX7_needs 4 RX7 (some .int))  {S : zS} (h : rX7_needs_14 N S = some (r, T)) : zWt D cy A p l e { frames := 1, cells := 0, slots := 0, locals := 24 } s m args below meth c z 0 0 0 0 (zQ D cy A T z (some (.int r))) S 4 14 [] [] := by
  obtain ⟨hx, hb, hml, hown, hr, hlocks, hT⟩ := id X
  intro H locs ls hH hS hl
  unfold rX7_needs_14 at h
  refine lv_iconst (v := (-1 : Int32)) hx hb dX7_needs_14 (by decide) ?_
  exact z_iret X hH hS h dX7_needs_15
set_option maxRecDepth 100000 in
set_option maxHeartbeats 4000000 in
theorem wX7_needs_0 {z : Nat} {N : Nat} {r : Int32} {T : zS} (X : zX D cy p s m meth c cX7_needs 4 RX7 (some .int))  {S : zS} {x0 : Nat} {x1 : Int32} {x2 : Int32} (h : rX7_needs_0 N S x0 x1 x2 = some (r, T)) : zWt D cy A p l e { frames := 1, cells := 0, slots := 0, locals := 24 } s m args below meth c z 0 0 0 0 (zQ D cy A T z (some (.int r))) S 4 0 [(0, .ref x0), (1, .int x1), (2, .int x2)] [] := by
  obtain ⟨hx, hb, hml, hown, hr, hlocks, hT⟩ := id X
  intro H locs ls hH hS hl
  unfold rX7_needs_0 at h
  refine lv_iload_n hx hb dX7_needs_0 rfl (lv_at hl 1 rfl) ?_
  obtain ⟨v4, S3, eS3, h⟩ := zb2_some h
  refine z_cS (As := [.int x1]) X hl hH hS mlX7_217 (kX7_isMaker eS3) rfl rfl (Nat.le_of_ble_eq_true rfl) ⟨rfl, rfl, Nat.le_of_ble_eq_true rfl, Nat.le_of_ble_eq_true rfl⟩ ⟨Nat.le_refl _, Nat.le_refl _⟩ dX7_needs_1 (fun H locs hH hS => ?_)
  refine lv_if_eq (tgt := 14) hx hb dX7_needs_4 (by decide) (fun c => ?_) (fun c => ?_)
  · have h := (if_pos c).symm.trans h
    exact wX7_needs_14 X h _ _ _ hH hS (lv_sub hl [] rfl)
  · have h := (if_neg c).symm.trans h
    refine lv_iload_n hx hb dX7_needs_7 rfl (lv_at hl 2 rfl) ?_
    obtain ⟨v6, S5, eS5, h⟩ := zb2_some h
    refine z_cS (As := [.int x2]) X hl hH hS mlX7_83 (kX7_isBit eS5) rfl rfl (Nat.le_of_ble_eq_true rfl) ⟨rfl, rfl, Nat.le_of_ble_eq_true rfl, Nat.le_of_ble_eq_true rfl⟩ ⟨Nat.le_refl _, Nat.le_refl _⟩ dX7_needs_8 (fun H locs hH hS => ?_)
    refine lv_if_ne (tgt := 16) hx hb dX7_needs_11 (by decide) (fun c => ?_) (fun c => ?_)
    · have h := (if_neg c).symm.trans h
      refine lv_aload_n hx hb dX7_needs_16 rfl (lv_at hl 0 rfl) ?_
      obtain ⟨v7, ev7, h⟩ := zb_some h
      refine z_getr X flX7_57 hH ev7 dX7_needs_17 ?_
      refine lv_aload_n hx hb dX7_needs_20 rfl (lv_at hl 0 rfl) ?_
      obtain ⟨v8, ev8, h⟩ := zb_some h
      refine z_getr X flX7_57 hH ev8 dX7_needs_21 ?_
      refine lv_iload_n hx hb dX7_needs_24 rfl (lv_at hl 1 rfl) ?_
      obtain ⟨u9, eu9, h⟩ := zb_some h
      obtain ⟨v11, S10, eS10, h⟩ := zb2_some h
      refine z_cV (As := [.int x1]) X hl hH hS mlX7_229 eu9 (kX2_way eS10) rfl rfl (Nat.le_of_ble_eq_true rfl) ⟨rfl, rfl, Nat.le_of_ble_eq_true rfl, Nat.le_of_ble_eq_true rfl⟩ ⟨Nat.le_refl _, Nat.le_refl _⟩ dX7_needs_25 (fun H locs hH hS => ?_)
      obtain ⟨u12, eu12, h⟩ := zb_some h
      obtain ⟨v14, S13, eS13, h⟩ := zb2_some h
      refine z_cV (As := [.int v11]) X hl hH hS mlX7_235 eu12 (kX2_textsOn eS13) rfl rfl (Nat.le_of_ble_eq_true rfl) ⟨rfl, rfl, Nat.le_of_ble_eq_true rfl, Nat.le_of_ble_eq_true rfl⟩ ⟨Nat.le_refl _, Nat.le_refl _⟩ dX7_needs_28 (fun H locs hH hS => ?_)
      refine lv_istore_n (lv' := [(3, .int v14), (0, .ref x0), (1, .int x1), (2, .int x2)]) hx hb dX7_needs_31 rfl hl (by decide) rfl (fun ls hl => ?_)
      refine lv_iload_n hx hb dX7_needs_32 rfl (lv_at hl 3 rfl) ?_
      refine lv_if_ne (tgt := 40) hx hb dX7_needs_33 (by decide) (fun c => ?_) (fun c => ?_)
      · have h := (if_neg c).symm.trans h
        refine lv_iload_n hx hb dX7_needs_40 rfl (lv_at hl 0 rfl) ?_
        refine lv_aload_n hx hb dX7_needs_41 rfl (lv_at hl 1 rfl) ?_
        obtain ⟨v15, ev15, h⟩ := zb_some h
        refine z_getr X flX7_10 hH ev15 dX7_needs_42 ?_
        obtain ⟨v16, ev16, h⟩ := zb_some h
        refine z_geti X flX7_86 hH ev16 dX7_needs_45 ?_
        refine lv_iand hx hb dX7_needs_48 ?_
        exact wX7_needs_49 X h _ _ _ hH hS (lv_sub hl [] rfl)
      · have h := (if_pos c).symm.trans h
        refine lv_iload_n hx hb dX7_needs_36 rfl (lv_at hl 0 rfl) ?_
        refine lv_goto (tgt := 49) hx hb dX7_needs_37 (by decide) ?_
        exact wX7_needs_49 X h _ _ _ hH hS (lv_sub hl [] rfl)
    · have h := (if_pos c).symm.trans h
      exact wX7_needs_14 X h _ _ _ hH hS (lv_sub hl [] rfl)
set_option maxRecDepth 100000 in
theorem kX7_needs {N : Nat} {r : Int32} {T : zS} {S : zS} {z : Nat} {x0 : Nat} {x1 : Int32} {x2 : Int32} (h : rX7_needs N S x0 x1 x2 = some (r, T)) : Met l yX7_needs [.code yX7_needs cX7_needs 4 (some .int)] { frames := 1, cells := 0, slots := 0, locals := 24 } (zP D cy A S z [.ref x0, .int x1, .int x2]) (zQ D cy A T z (some (.int r))) 0 0 A := by
  refine z_met (lv := [(0, .ref x0), (1, .int x1), (2, .int x2)]) (by decide) (Nat.le_of_ble_eq_true rfl) rfl ?_
  intro p e s m below meth c X H locs ls hH hS hl
  exact wX7_needs_0 X h _ _ _ hH hS (lv_sub hl [0, 1, 2] rfl)
set_option maxRecDepth 100000 in
set_option maxHeartbeats 4000000 in
theorem wX7_forge_14 {z : Nat} {N : Nat} {r : Int32} {T : zS} (X : zX D cy p s m meth c cX7_forge 4 RX7 (some .int))  {S : zS} (h : rX7_forge_14 N S = some (r, T)) : zWt D cy A p l e { frames := 1, cells := 0, slots := 0, locals := 22 } s m args below meth c z 0 0 0 0 (zQ D cy A T z (some (.int r))) S 4 14 [] [] := by
  obtain ⟨hx, hb, hml, hown, hr, hlocks, hT⟩ := id X
  intro H locs ls hH hS hl
  unfold rX7_forge_14 at h
  refine lv_iconst (v := (-1 : Int32)) hx hb dX7_forge_14 (by decide) ?_
  exact z_iret X hH hS h dX7_forge_15
set_option maxRecDepth 100000 in
set_option maxHeartbeats 4000000 in
theorem wX7_forge_0 {z : Nat} {N : Nat} {r : Int32} {T : zS} (X : zX D cy p s m meth c cX7_forge 4 RX7 (some .int))  {S : zS} {x0 : Nat} {x1 : Int32} {x2 : Int32} (h : rX7_forge_0 N S x0 x1 x2 = some (r, T)) : zWt D cy A p l e { frames := 1, cells := 0, slots := 0, locals := 22 } s m args below meth c z 0 0 0 0 (zQ D cy A T z (some (.int r))) S 4 0 [(0, .ref x0), (1, .int x1), (2, .int x2)] [] := by
  obtain ⟨hx, hb, hml, hown, hr, hlocks, hT⟩ := id X
  intro H locs ls hH hS hl
  unfold rX7_forge_0 at h
  refine lv_iload_n hx hb dX7_forge_0 rfl (lv_at hl 1 rfl) ?_
  obtain ⟨v2, S1, eS1, h⟩ := zb2_some h
  refine z_cS (As := [.int x1]) X hl hH hS mlX7_217 (kX7_isMaker eS1) rfl rfl (Nat.le_of_ble_eq_true rfl) ⟨rfl, rfl, Nat.le_of_ble_eq_true rfl, Nat.le_of_ble_eq_true rfl⟩ ⟨Nat.le_refl _, Nat.le_refl _⟩ dX7_forge_1 (fun H locs hH hS => ?_)
  refine lv_if_eq (tgt := 14) hx hb dX7_forge_4 (by decide) (fun c => ?_) (fun c => ?_)
  · have h := (if_pos c).symm.trans h
    exact wX7_forge_14 X h _ _ _ hH hS (lv_sub hl [] rfl)
  · have h := (if_neg c).symm.trans h
    refine lv_iload_n hx hb dX7_forge_7 rfl (lv_at hl 2 rfl) ?_
    obtain ⟨v4, S3, eS3, h⟩ := zb2_some h
    refine z_cS (As := [.int x2]) X hl hH hS mlX7_83 (kX7_isBit eS3) rfl rfl (Nat.le_of_ble_eq_true rfl) ⟨rfl, rfl, Nat.le_of_ble_eq_true rfl, Nat.le_of_ble_eq_true rfl⟩ ⟨Nat.le_refl _, Nat.le_refl _⟩ dX7_forge_8 (fun H locs hH hS => ?_)
    refine lv_if_ne (tgt := 16) hx hb dX7_forge_11 (by decide) (fun c => ?_) (fun c => ?_)
    · have h := (if_neg c).symm.trans h
      refine lv_aload_n hx hb dX7_forge_16 rfl (lv_at hl 0 rfl) ?_
      obtain ⟨v5, ev5, h⟩ := zb_some h
      refine z_getr X flX7_57 hH ev5 dX7_forge_17 ?_
      obtain ⟨v6, ev6, h⟩ := zb_some h
      refine z_geti X flX7_238 hH ev6 dX7_forge_20 ?_
      refine lv_iload_n hx hb dX7_forge_23 rfl (lv_at hl 1 rfl) ?_
      refine lv_iushr hx hb dX7_forge_24 (zush_eq _ _) ?_
      refine lv_iconst (v := (1 : Int32)) hx hb dX7_forge_25 (by decide) ?_
      refine lv_iand hx hb dX7_forge_26 ?_
      refine lv_topi (fun v7 ev7 => ?_)
      have h := zlet_at ev7 h
      refine lv_istore_n (lv' := [(3, .int v7), (0, .ref x0), (1, .int x1), (2, .int x2)]) hx hb dX7_forge_27 rfl hl (by decide) rfl (fun ls hl => ?_)
      refine lv_aload_n hx hb dX7_forge_28 rfl (lv_at hl 1 rfl) ?_
      obtain ⟨v8, ev8, h⟩ := zb_some h
      refine z_getr X flX7_57 hH ev8 dX7_forge_29 ?_
      refine lv_aload_n hx hb dX7_forge_32 rfl (lv_at hl 1 rfl) ?_
      obtain ⟨v9, ev9, h⟩ := zb_some h
      refine z_getr X flX7_57 hH ev9 dX7_forge_33 ?_
      obtain ⟨v10, ev10, h⟩ := zb_some h
      refine z_geti X flX7_238 hH ev10 dX7_forge_36 ?_
      refine lv_iload_n hx hb dX7_forge_39 rfl (lv_at hl 2 rfl) ?_
      refine lv_iload_n hx hb dX7_forge_40 rfl (lv_at hl 3 rfl) ?_
      obtain ⟨v12, S11, eS11, h⟩ := zb2_some h
      refine z_cS (As := [.int v10, .int x1, .int x2]) X hl hH hS mlX7_89 (kX7_withBit eS11) rfl rfl (Nat.le_of_ble_eq_true rfl) ⟨rfl, rfl, Nat.le_of_ble_eq_true rfl, Nat.le_of_ble_eq_true rfl⟩ ⟨Nat.le_refl _, Nat.le_refl _⟩ dX7_forge_41 (fun H locs hH hS => ?_)
      obtain ⟨S13, eS13, h⟩ := zb_some h
      refine z_puti X flX7_238 fpX2_2 hH hS eS13 dX7_forge_44 (fun H locs hH hS => ?_)
      refine lv_iload_n hx hb dX7_forge_47 rfl (lv_at hl 0 rfl) ?_
      exact z_iret X hH hS h dX7_forge_48
    · have h := (if_pos c).symm.trans h
      exact wX7_forge_14 X h _ _ _ hH hS (lv_sub hl [] rfl)
set_option maxRecDepth 100000 in
theorem kX7_forge {N : Nat} {r : Int32} {T : zS} {S : zS} {z : Nat} {x0 : Nat} {x1 : Int32} {x2 : Int32} (h : rX7_forge N S x0 x1 x2 = some (r, T)) : Met l yX7_forge [.code yX7_forge cX7_forge 4 (some .int)] { frames := 1, cells := 0, slots := 0, locals := 22 } (zP D cy A S z [.ref x0, .int x1, .int x2]) (zQ D cy A T z (some (.int r))) 0 0 A := by
  refine z_met (lv := [(0, .ref x0), (1, .int x1), (2, .int x2)]) (by decide) (Nat.le_of_ble_eq_true rfl) rfl ?_
  intro p e s m below meth c X H locs ls hH hS hl
  exact wX7_forge_0 X h _ _ _ hH hS (lv_sub hl [0, 1, 2] rfl)
set_option maxRecDepth 100000 in
set_option maxHeartbeats 4000000 in
theorem wX7_trust_33 {z : Nat} {N : Nat} {r : Int32} {T : zS} (X : zX D cy p s m meth c cX7_trust 2 RX7 (some .int))  {S : zS} {y0 : Int32} (h : rX7_trust_33 N S y0 = some (r, T)) : zWt D cy A p l e { frames := 1, cells := 0, slots := 0, locals := 24 } s m args below meth c z 0 0 0 0 (zQ D cy A T z (some (.int r))) S 2 33 [] [.int y0] := by
  obtain ⟨hx, hb, hml, hown, hr, hlocks, hT⟩ := id X
  intro H locs ls hH hS hl
  unfold rX7_trust_33 at h
  exact z_iret X hH hS h dX7_trust_33
set_option maxRecDepth 100000 in
set_option maxHeartbeats 4000000 in
theorem wX7_trust_0 {z : Nat} {N : Nat} {r : Int32} {T : zS} (X : zX D cy p s m meth c cX7_trust 2 RX7 (some .int))  {S : zS} {x0 : Nat} {x1 : Int32} (h : rX7_trust_0 N S x0 x1 = some (r, T)) : zWt D cy A p l e { frames := 1, cells := 0, slots := 0, locals := 24 } s m args below meth c z 0 0 0 0 (zQ D cy A T z (some (.int r))) S 2 0 [(0, .ref x0), (1, .int x1)] [] := by
  obtain ⟨hx, hb, hml, hown, hr, hlocks, hT⟩ := id X
  intro H locs ls hH hS hl
  unfold rX7_trust_0 at h
  refine lv_iload_n hx hb dX7_trust_0 rfl (lv_at hl 1 rfl) ?_
  obtain ⟨v2, S1, eS1, h⟩ := zb2_some h
  refine z_cS (As := [.int x1]) X hl hH hS mlX7_217 (kX7_isMaker eS1) rfl rfl (Nat.le_of_ble_eq_true rfl) ⟨rfl, rfl, Nat.le_of_ble_eq_true rfl, Nat.le_of_ble_eq_true rfl⟩ ⟨Nat.le_refl _, Nat.le_refl _⟩ dX7_trust_1 (fun H locs hH hS => ?_)
  refine lv_if_ne (tgt := 9) hx hb dX7_trust_4 (by decide) (fun c => ?_) (fun c => ?_)
  · have h := (if_neg c).symm.trans h
    refine lv_aload_n hx hb dX7_trust_9 rfl (lv_at hl 0 rfl) ?_
    obtain ⟨v3, ev3, h⟩ := zb_some h
    refine z_getr X flX7_57 hH ev3 dX7_trust_10 ?_
    refine lv_iload_n hx hb dX7_trust_13 rfl (lv_at hl 1 rfl) ?_
    obtain ⟨u4, eu4, h⟩ := zb_some h
    obtain ⟨v6, S5, eS5, h⟩ := zb2_some h
    refine z_cV (As := [.int x1]) X hl hH hS mlX7_229 eu4 (kX2_way eS5) rfl rfl (Nat.le_of_ble_eq_true rfl) ⟨rfl, rfl, Nat.le_of_ble_eq_true rfl, Nat.le_of_ble_eq_true rfl⟩ ⟨Nat.le_refl _, Nat.le_refl _⟩ dX7_trust_14 (fun H locs hH hS => ?_)
    refine lv_aload_n hx hb dX7_trust_17 rfl (lv_at hl 0 rfl) ?_
    obtain ⟨v7, ev7, h⟩ := zb_some h
    refine z_getr X flX7_57 hH ev7 dX7_trust_18 ?_
    obtain ⟨v8, ev8, h⟩ := zb_some h
    refine z_geti X flX7_238 hH ev8 dX7_trust_21 ?_
    refine lv_iand hx hb dX7_trust_24 ?_
    refine lv_if_ne (tgt := 32) hx hb dX7_trust_25 (by decide) (fun c => ?_) (fun c => ?_)
    · have h := (if_neg c).symm.trans h
      refine lv_iconst (v := (0 : Int32)) hx hb dX7_trust_32 (by decide) ?_
      exact wX7_trust_33 X h _ _ _ hH hS (lv_sub hl [] rfl)
    · have h := (if_pos c).symm.trans h
      refine lv_iconst (v := (1 : Int32)) hx hb dX7_trust_28 (by decide) ?_
      refine lv_goto (tgt := 33) hx hb dX7_trust_29 (by decide) ?_
      exact wX7_trust_33 X h _ _ _ hH hS (lv_sub hl [] rfl)
  · have h := (if_pos c).symm.trans h
    refine lv_iconst (v := (-1 : Int32)) hx hb dX7_trust_7 (by decide) ?_
    exact z_iret X hH hS h dX7_trust_8
set_option maxRecDepth 100000 in
theorem kX7_trust {N : Nat} {r : Int32} {T : zS} {S : zS} {z : Nat} {x0 : Nat} {x1 : Int32} (h : rX7_trust N S x0 x1 = some (r, T)) : Met l yX7_trust [.code yX7_trust cX7_trust 2 (some .int)] { frames := 1, cells := 0, slots := 0, locals := 24 } (zP D cy A S z [.ref x0, .int x1]) (zQ D cy A T z (some (.int r))) 0 0 A := by
  refine z_met (lv := [(0, .ref x0), (1, .int x1)]) (by decide) (Nat.le_of_ble_eq_true rfl) rfl ?_
  intro p e s m below meth c X H locs ls hH hS hl
  exact wX7_trust_0 X h _ _ _ hH hS (lv_sub hl [0, 1] rfl)
set_option maxRecDepth 100000 in
set_option maxHeartbeats 4000000 in
theorem wX7_heirs_42 {z : Nat} {N : Nat} {r : Int32} {T : zS} (X : zX D cy p s m meth c cX7_heirs 4 RX7 (some .int)) {K13 : zS × Nat × Int32 × Int32 × Int32 → Option (Int32 × zS)} (hK13 : ∀ (S : zS) (x0 : Nat) (x1 : Int32) (x2 : Int32) (x3 : Int32), K13 (S, x0, x1, x2, x3) = some (r, T) → zWt D cy A p l e { frames := 1, cells := 0, slots := 0, locals := 24 } s m args below meth c z 0 0 0 0 (zQ D cy A T z (some (.int r))) S 4 13 [(0, .ref x0), (1, .int x1), (2, .int x2), (3, .int x3)] []) {S : zS} {x0 : Nat} {x1 : Int32} {x2 : Int32} {x3 : Int32} (h : rX7_heirs_42 N K13 S x0 x1 x2 x3 = some (r, T)) : zWt D cy A p l e { frames := 1, cells := 0, slots := 0, locals := 24 } s m args below meth c z 0 0 0 0 (zQ D cy A T z (some (.int r))) S 4 42 [(0, .ref x0), (1, .int x1), (2, .int x2), (3, .int x3)] [] := by
  obtain ⟨hx, hb, hml, hown, hr, hlocks, hT⟩ := id X
  intro H locs ls hH hS hl
  unfold rX7_heirs_42 at h
  refine lv_iinc (v := (x3 + (1 : Int32))) (lv' := [(3, .int (x3 + (1 : Int32))), (0, .ref x0), (1, .int x1), (2, .int x2)]) hx hb dX7_heirs_42 hl (k := 3) rfl (z_ii (by decide) _) (by decide) rfl (fun ls hl => ?_)
  refine lv_goto (tgt := 13) hx hb dX7_heirs_45 (by decide) ?_
  exact hK13 _ _ _ _ _ h _ _ _ hH hS (lv_sub hl [1, 2, 3, 0] rfl)
set_option maxRecDepth 100000 in
set_option maxHeartbeats 4000000 in
theorem wX7_heirs_13 {z : Nat} {N : Nat} {r : Int32} {T : zS} (X : zX D cy p s m meth c cX7_heirs 4 RX7 (some .int)) {K13 : zS × Nat × Int32 × Int32 × Int32 → Option (Int32 × zS)} (hK13 : ∀ (S : zS) (x0 : Nat) (x1 : Int32) (x2 : Int32) (x3 : Int32), K13 (S, x0, x1, x2, x3) = some (r, T) → zWt D cy A p l e { frames := 1, cells := 0, slots := 0, locals := 24 } s m args below meth c z 0 0 0 0 (zQ D cy A T z (some (.int r))) S 4 13 [(0, .ref x0), (1, .int x1), (2, .int x2), (3, .int x3)] []) {S : zS} {x0 : Nat} {x1 : Int32} {x2 : Int32} {x3 : Int32} (h : rX7_heirs_13 N K13 S x0 x1 x2 x3 = some (r, T)) : zWt D cy A p l e { frames := 1, cells := 0, slots := 0, locals := 24 } s m args below meth c z 0 0 0 0 (zQ D cy A T z (some (.int r))) S 4 13 [(0, .ref x0), (1, .int x1), (2, .int x2), (3, .int x3)] [] := by
  obtain ⟨hx, hb, hml, hown, hr, hlocks, hT⟩ := id X
  intro H locs ls hH hS hl
  unfold rX7_heirs_13 at h
  refine lv_iload_n hx hb dX7_heirs_13 rfl (lv_at hl 3 rfl) ?_
  refine lv_bipush (v := (30 : Int32)) hx hb dX7_heirs_14 (by decide) ?_
  refine lv_icmp_ge (tgt := 48) hx hb dX7_heirs_16 (by decide) (fun c => ?_) (fun c => ?_)
  · have h := (if_pos c).symm.trans h
    refine lv_iload_n hx hb dX7_heirs_48 rfl (lv_at hl 2 rfl) ?_
    exact z_iret X hH hS h dX7_heirs_49
  · have h := (if_neg c).symm.trans h
    refine lv_iload_n hx hb dX7_heirs_19 rfl (lv_at hl 3 rfl) ?_
    refine lv_iload_n hx hb dX7_heirs_20 rfl (lv_at hl 1 rfl) ?_
    refine lv_icmp_eq (tgt := 42) hx hb dX7_heirs_21 (by decide) (fun c => ?_) (fun c => ?_)
    · have h := (if_pos c).symm.trans h
      exact wX7_heirs_42 X hK13 h _ _ _ hH hS (lv_sub hl [0, 1, 2, 3] rfl)
    · have h := (if_neg c).symm.trans h
      refine lv_aload_n hx hb dX7_heirs_24 rfl (lv_at hl 0 rfl) ?_
      obtain ⟨v1, ev1, h⟩ := zb_some h
      refine z_getr X flX7_57 hH ev1 dX7_heirs_25 ?_
      refine lv_iload_n hx hb dX7_heirs_28 rfl (lv_at hl 3 rfl) ?_
      obtain ⟨u2, eu2, h⟩ := zb_some h
      obtain ⟨v4, S3, eS3, h⟩ := zb2_some h
      refine z_cV (As := [.int x3]) X hl hH hS mlX7_229 eu2 (kX2_way eS3) rfl rfl (Nat.le_of_ble_eq_true rfl) ⟨rfl, rfl, Nat.le_of_ble_eq_true rfl, Nat.le_of_ble_eq_true rfl⟩ ⟨Nat.le_refl _, Nat.le_refl _⟩ dX7_heirs_29 (fun H locs hH hS => ?_)
      refine lv_iload_n hx hb dX7_heirs_32 rfl (lv_at hl 1 rfl) ?_
      refine lv_iushr hx hb dX7_heirs_33 (zush_eq _ _) ?_
      refine lv_iconst (v := (1 : Int32)) hx hb dX7_heirs_34 (by decide) ?_
      refine lv_iand hx hb dX7_heirs_35 ?_
      refine lv_if_eq (tgt := 42) hx hb dX7_heirs_36 (by decide) (fun c => ?_) (fun c => ?_)
      · have h := (if_pos c).symm.trans h
        exact wX7_heirs_42 X hK13 h _ _ _ hH hS (lv_sub hl [0, 1, 2, 3] rfl)
      · have h := (if_neg c).symm.trans h
        refine lv_iinc (v := (x2 + (1 : Int32))) (lv' := [(2, .int (x2 + (1 : Int32))), (0, .ref x0), (1, .int x1), (3, .int x3)]) hx hb dX7_heirs_39 hl (k := 2) rfl (z_ii (by decide) _) (by decide) rfl (fun ls hl => ?_)
        exact wX7_heirs_42 X hK13 h _ _ _ hH hS (lv_sub hl [1, 2, 0, 3] rfl)
set_option maxRecDepth 100000 in
set_option maxHeartbeats 4000000 in
theorem uX7_heirs_13 {z : Nat} {N : Nat} {r : Int32} {T : zS} (X : zX D cy p s m meth c cX7_heirs 4 RX7 (some .int))  {S : zS} {x0 : Nat} {x1 : Int32} {x2 : Int32} {x3 : Int32} (h : rlX7_heirs_13 N S x0 x1 x2 x3 = some (r, T)) : zWt D cy A p l e { frames := 1, cells := 0, slots := 0, locals := 24 } s m args below meth c z 0 0 0 0 (zQ D cy A T z (some (.int r))) S 4 13 [(0, .ref x0), (1, .int x1), (2, .int x2), (3, .int x3)] [] := by
  unfold rlX7_heirs_13 at h
  refine zloop_ind (P := fun y => zWt D cy A p l e { frames := 1, cells := 0, slots := 0, locals := 24 } s m args below meth c z 0 0 0 0 (zQ D cy A T z (some (.int r))) y.1 4 13 [(0, .ref y.2.1), (1, .int y.2.2.1), (2, .int y.2.2.2.1), (3, .int y.2.2.2.2)] []) ?_ N (S, x0, x1, x2, x3) h
  intro K hK y hy
  obtain ⟨S, x0, x1, x2, x3⟩ := y
  exact wX7_heirs_13 X (fun S x0 x1 x2 x3 hq => hK (S, x0, x1, x2, x3) hq) hy
set_option maxRecDepth 100000 in
set_option maxHeartbeats 4000000 in
theorem wX7_heirs_0 {z : Nat} {N : Nat} {r : Int32} {T : zS} (X : zX D cy p s m meth c cX7_heirs 4 RX7 (some .int))  {S : zS} {x0 : Nat} {x1 : Int32} (h : rX7_heirs_0 N S x0 x1 = some (r, T)) : zWt D cy A p l e { frames := 1, cells := 0, slots := 0, locals := 24 } s m args below meth c z 0 0 0 0 (zQ D cy A T z (some (.int r))) S 4 0 [(0, .ref x0), (1, .int x1)] [] := by
  obtain ⟨hx, hb, hml, hown, hr, hlocks, hT⟩ := id X
  intro H locs ls hH hS hl
  unfold rX7_heirs_0 at h
  refine lv_iload_n hx hb dX7_heirs_0 rfl (lv_at hl 1 rfl) ?_
  obtain ⟨v6, S5, eS5, h⟩ := zb2_some h
  refine z_cS (As := [.int x1]) X hl hH hS mlX7_217 (kX7_isMaker eS5) rfl rfl (Nat.le_of_ble_eq_true rfl) ⟨rfl, rfl, Nat.le_of_ble_eq_true rfl, Nat.le_of_ble_eq_true rfl⟩ ⟨Nat.le_refl _, Nat.le_refl _⟩ dX7_heirs_1 (fun H locs hH hS => ?_)
  refine lv_if_ne (tgt := 9) hx hb dX7_heirs_4 (by decide) (fun c => ?_) (fun c => ?_)
  · have h := (if_neg c).symm.trans h
    refine lv_iconst (v := (0 : Int32)) hx hb dX7_heirs_9 (by decide) ?_
    refine lv_istore_n (lv' := [(2, .int (0 : Int32)), (0, .ref x0), (1, .int x1)]) hx hb dX7_heirs_10 rfl hl (by decide) rfl (fun ls hl => ?_)
    refine lv_iconst (v := (0 : Int32)) hx hb dX7_heirs_11 (by decide) ?_
    refine lv_istore_n (lv' := [(3, .int (0 : Int32)), (2, .int (0 : Int32)), (0, .ref x0), (1, .int x1)]) hx hb dX7_heirs_12 rfl hl (by decide) rfl (fun ls hl => ?_)
    exact uX7_heirs_13 X h _ _ _ hH hS (lv_sub hl [2, 3, 1, 0] rfl)
  · have h := (if_pos c).symm.trans h
    refine lv_iconst (v := (-1 : Int32)) hx hb dX7_heirs_7 (by decide) ?_
    exact z_iret X hH hS h dX7_heirs_8
set_option maxRecDepth 100000 in
theorem kX7_heirs {N : Nat} {r : Int32} {T : zS} {S : zS} {z : Nat} {x0 : Nat} {x1 : Int32} (h : rX7_heirs N S x0 x1 = some (r, T)) : Met l yX7_heirs [.code yX7_heirs cX7_heirs 4 (some .int)] { frames := 1, cells := 0, slots := 0, locals := 24 } (zP D cy A S z [.ref x0, .int x1]) (zQ D cy A T z (some (.int r))) 0 0 A := by
  refine z_met (lv := [(0, .ref x0), (1, .int x1)]) (by decide) (Nat.le_of_ble_eq_true rfl) rfl ?_
  intro p e s m below meth c X H locs ls hH hS hl
  exact wX7_heirs_0 X h _ _ _ hH hS (lv_sub hl [0, 1] rfl)
set_option maxRecDepth 100000 in
set_option maxHeartbeats 4000000 in
theorem wX7_count_0 {z : Nat} {N : Nat} {r : Int32} {T : zS} (X : zX D cy p s m meth c cX7_count 2 RX7 (some .int))  {S : zS} {x0 : Nat} {x1 : Int32} (h : rX7_count_0 N S x0 x1 = some (r, T)) : zWt D cy A p l e { frames := 1, cells := 0, slots := 0, locals := 22 } s m args below meth c z 0 0 0 0 (zQ D cy A T z (some (.int r))) S 2 0 [(0, .ref x0), (1, .int x1)] [] := by
  obtain ⟨hx, hb, hml, hown, hr, hlocks, hT⟩ := id X
  intro H locs ls hH hS hl
  unfold rX7_count_0 at h
  refine lv_iload_n hx hb dX7_count_0 rfl (lv_at hl 1 rfl) ?_
  by_cases c0 : x1 = (0 : Int32)
  · have h := (if_pos c0).symm.trans h
    refine lv_tableIn (tgt := 40) hx hb dX7_count_1 (by rw [c0]; decide) (by rw [c0]; decide) (by rw [c0]; rfl) (by decide) ?_
    refine lv_aload_n hx hb dX7_count_40 rfl (lv_at hl 0 rfl) ?_
    obtain ⟨v1, ev1, h⟩ := zb_some h
    refine z_getr X flX7_10 hH ev1 dX7_count_41 ?_
    obtain ⟨v2, ev2, h⟩ := zb_some h
    refine z_geti X flX7_75 hH ev2 dX7_count_44 ?_
    exact z_iret X hH hS h dX7_count_47
  have h := (if_neg c0).symm.trans h
  by_cases c1 : x1 = (1 : Int32)
  · have h := (if_pos c1).symm.trans h
    refine lv_tableIn (tgt := 48) hx hb dX7_count_1 (by rw [c1]; decide) (by rw [c1]; decide) (by rw [c1]; rfl) (by decide) ?_
    refine lv_aload_n hx hb dX7_count_48 rfl (lv_at hl 0 rfl) ?_
    obtain ⟨v3, ev3, h⟩ := zb_some h
    refine z_getr X flX7_19 hH ev3 dX7_count_49 ?_
    obtain ⟨v4, ev4, h⟩ := zb_some h
    refine z_geti X flX7_118 hH ev4 dX7_count_52 ?_
    exact z_iret X hH hS h dX7_count_55
  have h := (if_neg c1).symm.trans h
  by_cases c2 : x1 = (2 : Int32)
  · have h := (if_pos c2).symm.trans h
    refine lv_tableIn (tgt := 56) hx hb dX7_count_1 (by rw [c2]; decide) (by rw [c2]; decide) (by rw [c2]; rfl) (by decide) ?_
    refine lv_aload_n hx hb dX7_count_56 rfl (lv_at hl 0 rfl) ?_
    obtain ⟨v5, ev5, h⟩ := zb_some h
    refine z_getr X flX7_57 hH ev5 dX7_count_57 ?_
    obtain ⟨u6, eu6, h⟩ := zb_some h
    obtain ⟨v8, S7, eS7, h⟩ := zb2_some h
    refine z_cV (As := []) X hl hH hS mlX7_241 eu6 (kX2_seeds eS7) rfl rfl (Nat.le_of_ble_eq_true rfl) ⟨rfl, rfl, Nat.le_of_ble_eq_true rfl, Nat.le_of_ble_eq_true rfl⟩ ⟨Nat.le_refl _, Nat.le_refl _⟩ dX7_count_60 (fun H locs hH hS => ?_)
    exact z_iret X hH hS h dX7_count_63
  have h := (if_neg c2).symm.trans h
  by_cases c3 : x1 = (3 : Int32)
  · have h := (if_pos c3).symm.trans h
    refine lv_tableIn (tgt := 64) hx hb dX7_count_1 (by rw [c3]; decide) (by rw [c3]; decide) (by rw [c3]; rfl) (by decide) ?_
    refine lv_aload_n hx hb dX7_count_64 rfl (lv_at hl 0 rfl) ?_
    obtain ⟨v9, ev9, h⟩ := zb_some h
    refine z_getr X flX7_57 hH ev9 dX7_count_65 ?_
    obtain ⟨v10, ev10, h⟩ := zb_some h
    refine z_geti X flX7_238 hH ev10 dX7_count_68 ?_
    obtain ⟨v12, S11, eS11, h⟩ := zb2_some h
    refine z_cS (As := [.int v10]) X hl hH hS mlX7_107 (kJ6_bitCount_0f7a4 eS11) rfl rfl (Nat.le_of_ble_eq_true rfl) ⟨rfl, rfl, Nat.le_of_ble_eq_true rfl, Nat.le_of_ble_eq_true rfl⟩ ⟨Nat.le_refl _, Nat.le_refl _⟩ dX7_count_71 (fun H locs hH hS => ?_)
    exact z_iret X hH hS h dX7_count_74
  have h := (if_neg c3).symm.trans h
  by_cases c4 : x1 = (4 : Int32)
  · have h := (if_pos c4).symm.trans h
    refine lv_tableIn (tgt := 75) hx hb dX7_count_1 (by rw [c4]; decide) (by rw [c4]; decide) (by rw [c4]; rfl) (by decide) ?_
    refine lv_aload_n hx hb dX7_count_75 rfl (lv_at hl 0 rfl) ?_
    obtain ⟨v13, ev13, h⟩ := zb_some h
    refine z_getr X flX7_10 hH ev13 dX7_count_76 ?_
    obtain ⟨v14, ev14, h⟩ := zb_some h
    refine z_getr X flX7_61 hH ev14 dX7_count_79 ?_
    obtain ⟨v15, ev15, h⟩ := zb_some h
    refine z_geti X flX7_65 hH ev15 dX7_count_82 ?_
    exact z_iret X hH hS h dX7_count_85
  have h := (if_neg c4).symm.trans h
  by_cases c5 : x1 = (5 : Int32)
  · have h := (if_pos c5).symm.trans h
    refine lv_tableIn (tgt := 86) hx hb dX7_count_1 (by rw [c5]; decide) (by rw [c5]; decide) (by rw [c5]; rfl) (by decide) ?_
    refine lv_aload_n hx hb dX7_count_86 rfl (lv_at hl 0 rfl) ?_
    obtain ⟨v16, ev16, h⟩ := zb_some h
    refine z_getr X flX7_10 hH ev16 dX7_count_87 ?_
    obtain ⟨v17, ev17, h⟩ := zb_some h
    refine z_geti X flX7_86 hH ev17 dX7_count_90 ?_
    obtain ⟨v19, S18, eS18, h⟩ := zb2_some h
    refine z_cS (As := [.int v17]) X hl hH hS mlX7_107 (kJ6_bitCount_0f7a4 eS18) rfl rfl (Nat.le_of_ble_eq_true rfl) ⟨rfl, rfl, Nat.le_of_ble_eq_true rfl, Nat.le_of_ble_eq_true rfl⟩ ⟨Nat.le_refl _, Nat.le_refl _⟩ dX7_count_93 (fun H locs hH hS => ?_)
    exact z_iret X hH hS h dX7_count_96
  have h := (if_neg c5).symm.trans h
  refine lv_tableOut (tgt := 97) hx hb dX7_count_1 (by have := lv_neT c0 (a := 0) (by decide); have := lv_neT c1 (a := 1) (by decide); have := lv_neT c2 (a := 2) (by decide); have := lv_neT c3 (a := 3) (by decide); have := lv_neT c4 (a := 4) (by decide); have := lv_neT c5 (a := 5) (by decide); omega) (by decide) ?_
  refine lv_iconst (v := (-1 : Int32)) hx hb dX7_count_97 (by decide) ?_
  exact z_iret X hH hS h dX7_count_98
set_option maxRecDepth 100000 in
theorem kX7_count {N : Nat} {r : Int32} {T : zS} {S : zS} {z : Nat} {x0 : Nat} {x1 : Int32} (h : rX7_count N S x0 x1 = some (r, T)) : Met l yX7_count [.code yX7_count cX7_count 2 (some .int)] { frames := 1, cells := 0, slots := 0, locals := 22 } (zP D cy A S z [.ref x0, .int x1]) (zQ D cy A T z (some (.int r))) 0 0 A := by
  refine z_met (lv := [(0, .ref x0), (1, .int x1)]) (by decide) (Nat.le_of_ble_eq_true rfl) rfl ?_
  intro p e s m below meth c X H locs ls hH hS hl
  exact wX7_count_0 X h _ _ _ hH hS (lv_sub hl [0, 1] rfl)
end
