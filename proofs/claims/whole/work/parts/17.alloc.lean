section
variable {D : va_G} {cy : Nat → ClassId} {A : Nat → Prop} {p : Program} {l : Launch} {e : Env} {s : State} {m : MethodId} {args : Array Value} {below : List Frame} {meth : Method} {c : Code}
set_option maxRecDepth 100000 in
set_option maxHeartbeats 4000000 in
theorem wX0_init_0 {N : Nat} {MC MS zT : Nat} {T : zS} (X : zX D cy p s m meth c cX0_init 1 RX0 none) (hA : ∀ q : Nat, s.heap.size ≤ q → A q) (hin : meth.name = "<init>")  {S : zS} {z : Nat} {q : Nat} {w : Nat} {x0 : Nat} (h : rX0_init_0 N MC MS S z q w x0 = some (T, zT)) : zWt D cy A p l e ({ frames := 1, cells := MC, slots := MS, locals := 12 } : Room) s m args below meth c z q w MC MS (zQ D cy A T zT none) S 1 0 [(0, .ref x0)] [] := by
  obtain ⟨hx, hb, hml, hown, hr, hlocks, hT⟩ := id X
  intro H locs ls hH hS hl
  unfold rX0_init_0 at h
  refine lv_aload_n hx hb dX0_init_0 rfl (lv_at hl 0 rfl) ?_
  refine z_objInit X hl oiX0_3 oi_1 oi_2 (Nat.le_of_ble_eq_true rfl) (Nat.le_of_ble_eq_true rfl) dX0_init_1 ?_
  refine lv_aload_n hx hb dX0_init_4 rfl (lv_at hl 0 rfl) ?_
  refine lv_sipush (v := (200 : Int32)) hx hb dX0_init_5 (by decide) ?_
  obtain ⟨k1, ek1, h⟩ := zb_some h
  obtain ⟨u2, eu2, h⟩ := zb_some h
  refine z_newa (t := 9) X (by decide) hH hS (fun q h => hA q (Nat.le_trans (Nat.le_trans hS.1.1 (Nat.le_of_eq hS.2)) h)) ek1 eu2 dX0_init_8 (fun H hH hS => ?_)
  obtain ⟨S3, eS3⟩ : ∃ y : zS, y = zad S z 9 k1 := ⟨_, rfl⟩
  have h := zlet_at eS3 h
  rw [← eS3] at hH
  obtain ⟨S4, eS4, h⟩ := zb_some h
  refine z_putF X hin flX0_9 rfl fpX0_0 rfl ⟨_, _, _, rfl, fqX0_9⟩ (fun _ => ⟨rfl, rfl⟩) hH hS eS4 dX0_init_10 (fun H locs hH hS => ?_)
  refine lv_aload_n hx hb dX0_init_13 rfl (lv_at hl 0 rfl) ?_
  refine lv_sipush (v := (200 : Int32)) hx hb dX0_init_14 (by decide) ?_
  obtain ⟨k5, ek5, h⟩ := zb_some h
  obtain ⟨u6, eu6, h⟩ := zb_some h
  refine z_newa (t := 9) X (by decide) hH hS (fun q h => hA q (Nat.le_trans (Nat.le_trans hS.1.1 (Nat.le_of_eq hS.2)) h)) ek5 eu6 dX0_init_17 (fun H hH hS => ?_)
  obtain ⟨S7, eS7⟩ : ∃ y : zS, y = zad S4 (z + 1) 9 k5 := ⟨_, rfl⟩
  have h := zlet_at eS7 h
  rw [← eS7] at hH
  obtain ⟨S8, eS8, h⟩ := zb_some h
  refine z_putF X hin flX0_15 rfl fpX0_1 rfl ⟨_, _, _, rfl, fqX0_15⟩ (fun _ => ⟨rfl, rfl⟩) hH hS eS8 dX0_init_19 (fun H locs hH hS => ?_)
  refine lv_aload_n hx hb dX0_init_22 rfl (lv_at hl 0 rfl) ?_
  refine lv_sipush (v := (200 : Int32)) hx hb dX0_init_23 (by decide) ?_
  obtain ⟨k9, ek9, h⟩ := zb_some h
  obtain ⟨u10, eu10, h⟩ := zb_some h
  refine z_newa (t := 9) X (by decide) hH hS (fun q h => hA q (Nat.le_trans (Nat.le_trans hS.1.1 (Nat.le_of_eq hS.2)) h)) ek9 eu10 dX0_init_26 (fun H hH hS => ?_)
  obtain ⟨S11, eS11⟩ : ∃ y : zS, y = zad S8 ((z + 1) + 1) 9 k9 := ⟨_, rfl⟩
  have h := zlet_at eS11 h
  rw [← eS11] at hH
  obtain ⟨S12, eS12, h⟩ := zb_some h
  refine z_putF X hin flX0_18 rfl fpX0_2 rfl ⟨_, _, _, rfl, fqX0_18⟩ (fun _ => ⟨rfl, rfl⟩) hH hS eS12 dX0_init_28 (fun H locs hH hS => ?_)
  refine lv_aload_n hx hb dX0_init_31 rfl (lv_at hl 0 rfl) ?_
  refine lv_sipush (v := (2500 : Int32)) hx hb dX0_init_32 (by decide) ?_
  obtain ⟨k13, ek13, h⟩ := zb_some h
  obtain ⟨u14, eu14, h⟩ := zb_some h
  refine z_newa (t := 9) X (by decide) hH hS (fun q h => hA q (Nat.le_trans (Nat.le_trans hS.1.1 (Nat.le_of_eq hS.2)) h)) ek13 eu14 dX0_init_35 (fun H hH hS => ?_)
  obtain ⟨S15, eS15⟩ : ∃ y : zS, y = zad S12 (((z + 1) + 1) + 1) 9 k13 := ⟨_, rfl⟩
  have h := zlet_at eS15 h
  rw [← eS15] at hH
  obtain ⟨S16, eS16, h⟩ := zb_some h
  refine z_putF X hin flX0_21 rfl fpX0_3 rfl ⟨_, _, _, rfl, fqX0_21⟩ (fun _ => ⟨rfl, rfl⟩) hH hS eS16 dX0_init_37 (fun H locs hH hS => ?_)
  refine lv_aload_n hx hb dX0_init_40 rfl (lv_at hl 0 rfl) ?_
  refine lv_sipush (v := (201 : Int32)) hx hb dX0_init_41 (by decide) ?_
  obtain ⟨k17, ek17, h⟩ := zb_some h
  obtain ⟨u18, eu18, h⟩ := zb_some h
  refine z_newa (t := 9) X (by decide) hH hS (fun q h => hA q (Nat.le_trans (Nat.le_trans hS.1.1 (Nat.le_of_eq hS.2)) h)) ek17 eu18 dX0_init_44 (fun H hH hS => ?_)
  obtain ⟨S19, eS19⟩ : ∃ y : zS, y = zad S16 ((((z + 1) + 1) + 1) + 1) 9 k17 := ⟨_, rfl⟩
  have h := zlet_at eS19 h
  rw [← eS19] at hH
  obtain ⟨S20, eS20, h⟩ := zb_some h
  refine z_putr X flX0_24 fpX0_4 (fun _ => ⟨rfl, rfl⟩) hH hS eS20 dX0_init_46 (fun H locs hH hS => ?_)
  refine lv_aload_n hx hb dX0_init_49 rfl (lv_at hl 0 rfl) ?_
  refine lv_sipush (v := (201 : Int32)) hx hb dX0_init_50 (by decide) ?_
  obtain ⟨k21, ek21, h⟩ := zb_some h
  obtain ⟨u22, eu22, h⟩ := zb_some h
  refine z_newa (t := 9) X (by decide) hH hS (fun q h => hA q (Nat.le_trans (Nat.le_trans hS.1.1 (Nat.le_of_eq hS.2)) h)) ek21 eu22 dX0_init_53 (fun H hH hS => ?_)
  obtain ⟨S23, eS23⟩ : ∃ y : zS, y = zad S20 (((((z + 1) + 1) + 1) + 1) + 1) 9 k21 := ⟨_, rfl⟩
  have h := zlet_at eS23 h
  rw [← eS23] at hH
  obtain ⟨S24, eS24, h⟩ := zb_some h
  refine z_putr X flX0_27 fpX0_5 (fun _ => ⟨rfl, rfl⟩) hH hS eS24 dX0_init_55 (fun H locs hH hS => ?_)
  exact z_vretA X hH hS h dX0_init_58
set_option maxRecDepth 100000 in
theorem kX0_init {N : Nat} {MC MS zT : Nat} {T : zS} {S : zS} {z : Nat} {x0 : Nat} (hA0 : ∀ q : Nat, z ≤ q → A q) (h : rX0_init N MC MS S z 0 0 x0 = some (T, zT)) : Met l yX0_init [.code yX0_init cX0_init 1 none] ({ frames := 1, cells := MC, slots := MS, locals := 12 } : Room) (zP D cy A S z [.ref x0]) (zQ D cy A T zT none) MC MS A := by
  refine z_metI (lv := [(0, .ref x0)]) (by decide) (Nat.le_of_ble_eq_true rfl) rfl rfl ?_
  intro p e s m below meth c X hin hz H locs ls hH hS hl
  exact wX0_init_0 X (fun q hq => hA0 q (by rw [← hz]; exact hq)) hin h _ _ _ hH hS (lv_sub hl [0] rfl)
set_option maxRecDepth 100000 in
set_option maxHeartbeats 4000000 in
theorem wX5_init_0 {N : Nat} {MC MS zT : Nat} {T : zS} (X : zX D cy p s m meth c cX5_init 2 RX5 none) (hA : ∀ q : Nat, s.heap.size ≤ q → A q) (hin : meth.name = "<init>")  {S : zS} {z : Nat} {q : Nat} {w : Nat} {x0 : Nat} {x1 : Int32} (h : rX5_init_0 N MC MS S z q w x0 x1 = some (T, zT)) : zWt D cy A p l e ({ frames := 1, cells := MC, slots := MS, locals := 21 } : Room) s m args below meth c z q w MC MS (zQ D cy A T zT none) S 2 0 [(0, .ref x0), (1, .int x1)] [] := by
  obtain ⟨hx, hb, hml, hown, hr, hlocks, hT⟩ := id X
  intro H locs ls hH hS hl
  unfold rX5_init_0 at h
  refine lv_aload_n hx hb dX5_init_0 rfl (lv_at hl 0 rfl) ?_
  refine z_objInit X hl oiX5_1 oi_1 oi_2 (Nat.le_of_ble_eq_true rfl) (Nat.le_of_ble_eq_true rfl) dX5_init_1 ?_
  refine lv_aload_n hx hb dX5_init_4 rfl (lv_at hl 0 rfl) ?_
  refine lv_iconst (v := (0 : Int32)) hx hb dX5_init_5 (by decide) ?_
  obtain ⟨k1, ek1, h⟩ := zb_some h
  obtain ⟨u2, eu2, h⟩ := zb_some h
  refine z_newa (t := 9) X (by decide) hH hS (fun q h => hA q (Nat.le_trans (Nat.le_trans hS.1.1 (Nat.le_of_eq hS.2)) h)) ek1 eu2 dX5_init_6 (fun H hH hS => ?_)
  obtain ⟨S3, eS3⟩ : ∃ y : zS, y = zad S z 9 k1 := ⟨_, rfl⟩
  have h := zlet_at eS3 h
  rw [← eS3] at hH
  obtain ⟨S4, eS4, h⟩ := zb_some h
  refine z_putr X flX5_7 fpX5_1 (fun _ => ⟨rfl, rfl⟩) hH hS eS4 dX5_init_8 (fun H locs hH hS => ?_)
  refine lv_aload_n hx hb dX5_init_11 rfl (lv_at hl 0 rfl) ?_
  refine lv_iload_n hx hb dX5_init_12 rfl (lv_at hl 1 rfl) ?_
  refine lv_iconst (v := (0 : Int32)) hx hb dX5_init_13 (by decide) ?_
  obtain ⟨u5, eu5, h⟩ := zb_some h
  refine z_max X hl mlX5_13 (Nat.le_of_ble_eq_true rfl) (Nat.le_of_ble_eq_true rfl) (zbud_at eu5).1 (zbud_at eu5).2 dX5_init_14 ?_
  obtain ⟨S6, eS6, h⟩ := zb_some h
  refine z_putFi X hin flX5_19 rfl fpX5_0 rfl ⟨_, _, _, rfl, fqX5_19⟩ (fun _ => ⟨rfl, rfl⟩) hH hS eS6 dX5_init_17 (fun H locs hH hS => ?_)
  exact z_vretA X hH hS h dX5_init_20
set_option maxRecDepth 100000 in
theorem kX5_init {N : Nat} {MC MS zT : Nat} {T : zS} {S : zS} {z : Nat} {x0 : Nat} {x1 : Int32} (hA0 : ∀ q : Nat, z ≤ q → A q) (h : rX5_init N MC MS S z 0 0 x0 x1 = some (T, zT)) : Met l yX5_init [.code yX5_init cX5_init 2 none] ({ frames := 1, cells := MC, slots := MS, locals := 21 } : Room) (zP D cy A S z [.ref x0, .int x1]) (zQ D cy A T zT none) MC MS A := by
  refine z_metI (lv := [(0, .ref x0), (1, .int x1)]) (by decide) (Nat.le_of_ble_eq_true rfl) rfl rfl ?_
  intro p e s m below meth c X hin hz H locs ls hH hS hl
  exact wX5_init_0 X (fun q hq => hA0 q (by rw [← hz]; exact hq)) hin h _ _ _ hH hS (lv_sub hl [0, 1] rfl)
set_option maxRecDepth 100000 in
set_option maxHeartbeats 4000000 in
theorem wX1_init_50 {N : Nat} {MC MS zT : Nat} {T : zS} (X : zX D cy p s m meth c cX1_init 4 RX1 none) (hA : ∀ q : Nat, s.heap.size ≤ q → A q) (hin : meth.name = "<init>") {K50 : zS × Nat × Nat × Nat × Nat × Int32 → Option (zS × Nat)} (hK50 : ∀ (S : zS) (z : Nat) (q : Nat) (w : Nat) (x0 : Nat) (x3 : Int32), K50 (S, z, q, w, x0, x3) = some (T, zT) → zWt D cy A p l e ({ frames := 2, cells := MC, slots := MS, locals := 42 } : Room) s m args below meth c z q w MC MS (zQ D cy A T zT none) S 4 50 [(0, .ref x0), (3, .int x3)] []) {S : zS} {z : Nat} {q : Nat} {w : Nat} {x0 : Nat} {x3 : Int32} (h : rX1_init_50 N MC MS K50 S z q w x0 x3 = some (T, zT)) : zWt D cy A p l e ({ frames := 2, cells := MC, slots := MS, locals := 42 } : Room) s m args below meth c z q w MC MS (zQ D cy A T zT none) S 4 50 [(0, .ref x0), (3, .int x3)] [] := by
  obtain ⟨hx, hb, hml, hown, hr, hlocks, hT⟩ := id X
  intro H locs ls hH hS hl
  unfold rX1_init_50 at h
  refine lv_iload_n hx hb dX1_init_50 rfl (lv_at hl 1 rfl) ?_
  refine lv_bipush (v := (24 : Int32)) hx hb dX1_init_51 (by decide) ?_
  refine lv_icmp_ge (tgt := 78) hx hb dX1_init_53 (by decide) (fun c => ?_) (fun c => ?_)
  · have h := (if_pos c).symm.trans h
    exact z_vretA X hH hS h dX1_init_78
  · have h := (if_neg c).symm.trans h
    refine lv_aload_n hx hb dX1_init_56 rfl (lv_at hl 0 rfl) ?_
    obtain ⟨v1, ev1, h⟩ := zb_some h
    refine z_getr X flX1_17 hH ev1 dX1_init_57 ?_
    refine lv_iload_n hx hb dX1_init_60 rfl (lv_at hl 1 rfl) ?_
    obtain ⟨u2, eu2, h⟩ := zb_some h
    refine z_new X nlX1_15 hH hS (fun q h => hA q (Nat.le_trans (Nat.le_trans hS.1.1 (Nat.le_of_eq hS.2)) h)) eu2 dX1_init_61 (fun H hH hS => ?_)
    obtain ⟨S3, eS3⟩ : ∃ y : zS, y = zad S z 5 0 := ⟨_, rfl⟩
    have h := zlet_at eS3 h
    rw [← eS3] at hH
    refine lv_dup hx hb dX1_init_64 rfl ?_
    refine lv_sipush (v := (200 : Int32)) hx hb dX1_init_65 (by decide) ?_
    obtain ⟨u4, eu4, h⟩ := zb_some h
    obtain ⟨S5, z6, eS5, h⟩ := zb2_some h
    refine z_cI (As := [.int (200 : Int32)]) X hl hH hS mlX1_36 (kX5_init (fun q h => hA q (Nat.le_trans (Nat.le_trans hS.1.1 (Nat.le_of_eq hS.2)) h)) eS5) rfl rfl (Nat.le_of_ble_eq_true rfl) ⟨rfl, rfl, Nat.le_of_ble_eq_true rfl, Nat.le_of_ble_eq_true rfl⟩ (zbud_at eu4) dX1_init_68 (fun H locs hH hS => ?_)
    obtain ⟨S7, eS7, h⟩ := zb_some h
    refine z_aast X hH hS eS7 dX1_init_71 (fun H locs hH hS => ?_)
    refine lv_iinc (v := (x3 + (1 : Int32))) (lv' := [(3, .int (x3 + (1 : Int32))), (0, .ref x0)]) hx hb dX1_init_72 hl (k := 1) rfl (z_ii (by decide) _) (by decide) rfl (fun ls hl => ?_)
    refine lv_goto (tgt := 50) hx hb dX1_init_75 (by decide) ?_
    exact hK50 _ _ _ _ _ _ h _ _ _ hH hS (lv_sub hl [1, 0] rfl)
set_option maxRecDepth 100000 in
set_option maxHeartbeats 4000000 in
theorem uX1_init_50 {N : Nat} {MC MS zT : Nat} {T : zS} (X : zX D cy p s m meth c cX1_init 4 RX1 none) (hA : ∀ q : Nat, s.heap.size ≤ q → A q) (hin : meth.name = "<init>")  {S : zS} {z : Nat} {q : Nat} {w : Nat} {x0 : Nat} {x3 : Int32} (h : rlX1_init_50 N MC MS S z q w x0 x3 = some (T, zT)) : zWt D cy A p l e ({ frames := 2, cells := MC, slots := MS, locals := 42 } : Room) s m args below meth c z q w MC MS (zQ D cy A T zT none) S 4 50 [(0, .ref x0), (3, .int x3)] [] := by
  unfold rlX1_init_50 at h
  refine zloop_ind (P := fun y => zWt D cy A p l e ({ frames := 2, cells := MC, slots := MS, locals := 42 } : Room) s m args below meth c y.2.1 y.2.2.1 y.2.2.2.1 MC MS (zQ D cy A T zT none) y.1 4 50 [(0, .ref y.2.2.2.2.1), (3, .int y.2.2.2.2.2)] []) ?_ N (S, z, q, w, x0, x3) h
  intro K hK y hy
  obtain ⟨S, z, q, w, x0, x3⟩ := y
  exact wX1_init_50 X hA hin (fun S z q w x0 x3 hq => hK (S, z, q, w, x0, x3) hq) hy
set_option maxRecDepth 100000 in
set_option maxHeartbeats 4000000 in
theorem wX1_init_0 {N : Nat} {MC MS zT : Nat} {T : zS} (X : zX D cy p s m meth c cX1_init 4 RX1 none) (hA : ∀ q : Nat, s.heap.size ≤ q → A q) (hin : meth.name = "<init>")  {S : zS} {z : Nat} {q : Nat} {w : Nat} {x0 : Nat} {x1 : Nat} {x2 : Nat} (h : rX1_init_0 N MC MS S z q w x0 x1 x2 = some (T, zT)) : zWt D cy A p l e ({ frames := 2, cells := MC, slots := MS, locals := 42 } : Room) s m args below meth c z q w MC MS (zQ D cy A T zT none) S 4 0 [(0, .ref x0), (1, .ref x1), (2, .ref x2)] [] := by
  obtain ⟨hx, hb, hml, hown, hr, hlocks, hT⟩ := id X
  intro H locs ls hH hS hl
  unfold rX1_init_0 at h
  refine lv_aload_n hx hb dX1_init_0 rfl (lv_at hl 0 rfl) ?_
  refine z_objInit X hl oiX1_3 oi_1 oi_2 (Nat.le_of_ble_eq_true rfl) (Nat.le_of_ble_eq_true rfl) dX1_init_1 ?_
  refine lv_aload_n hx hb dX1_init_4 rfl (lv_at hl 0 rfl) ?_
  refine lv_bipush (v := (8 : Int32)) hx hb dX1_init_5 (by decide) ?_
  obtain ⟨k8, ek8, h⟩ := zb_some h
  obtain ⟨u9, eu9, h⟩ := zb_some h
  refine z_newa (t := 9) X (by decide) hH hS (fun q h => hA q (Nat.le_trans (Nat.le_trans hS.1.1 (Nat.le_of_eq hS.2)) h)) ek8 eu9 dX1_init_7 (fun H hH hS => ?_)
  obtain ⟨S10, eS10⟩ : ∃ y : zS, y = zad S z 9 k8 := ⟨_, rfl⟩
  have h := zlet_at eS10 h
  rw [← eS10] at hH
  obtain ⟨S11, eS11, h⟩ := zb_some h
  refine z_putF X hin flX1_9 rfl fpX1_2 rfl ⟨_, _, _, rfl, fqX1_9⟩ (fun _ => ⟨rfl, rfl⟩) hH hS eS11 dX1_init_9 (fun H locs hH hS => ?_)
  refine lv_aload_n hx hb dX1_init_12 rfl (lv_at hl 0 rfl) ?_
  refine lv_bipush (v := (24 : Int32)) hx hb dX1_init_13 (by decide) ?_
  obtain ⟨k12, ek12, h⟩ := zb_some h
  obtain ⟨u13, eu13, h⟩ := zb_some h
  refine z_anew X clX1_15 hH hS (fun q h => hA q (Nat.le_trans (Nat.le_trans hS.1.1 (Nat.le_of_eq hS.2)) h)) ek12 eu13 dX1_init_15 (fun H hH hS => ?_)
  obtain ⟨S14, eS14⟩ : ∃ y : zS, y = zad S11 (z + 1) 12 k12 := ⟨_, rfl⟩
  have h := zlet_at eS14 h
  rw [← eS14] at hH
  obtain ⟨S15, eS15, h⟩ := zb_some h
  refine z_putF X hin flX1_17 rfl fpX1_3 rfl ⟨_, _, _, rfl, fqX1_17⟩ (fun _ => ⟨rfl, rfl⟩) hH hS eS15 dX1_init_18 (fun H locs hH hS => ?_)
  refine lv_aload_n hx hb dX1_init_21 rfl (lv_at hl 0 rfl) ?_
  refine lv_bipush (v := (24 : Int32)) hx hb dX1_init_22 (by decide) ?_
  obtain ⟨k16, ek16, h⟩ := zb_some h
  obtain ⟨u17, eu17, h⟩ := zb_some h
  refine z_newa (t := 11) X (by decide) hH hS (fun q h => hA q (Nat.le_trans (Nat.le_trans hS.1.1 (Nat.le_of_eq hS.2)) h)) ek16 eu17 dX1_init_24 (fun H hH hS => ?_)
  obtain ⟨S18, eS18⟩ : ∃ y : zS, y = zad S15 ((z + 1) + 1) 11 k16 := ⟨_, rfl⟩
  have h := zlet_at eS18 h
  rw [← eS18] at hH
  obtain ⟨S19, eS19, h⟩ := zb_some h
  refine z_putF X hin flX1_21 rfl fpX1_4 rfl ⟨_, _, _, rfl, fqX1_21⟩ (fun _ => ⟨rfl, rfl⟩) hH hS eS19 dX1_init_26 (fun H locs hH hS => ?_)
  refine lv_aload_n hx hb dX1_init_29 rfl (lv_at hl 0 rfl) ?_
  refine lv_sipush (v := (256 : Int32)) hx hb dX1_init_30 (by decide) ?_
  obtain ⟨k20, ek20, h⟩ := zb_some h
  obtain ⟨u21, eu21, h⟩ := zb_some h
  refine z_newa (t := 9) X (by decide) hH hS (fun q h => hA q (Nat.le_trans (Nat.le_trans hS.1.1 (Nat.le_of_eq hS.2)) h)) ek20 eu21 dX1_init_33 (fun H hH hS => ?_)
  obtain ⟨S22, eS22⟩ : ∃ y : zS, y = zad S19 (((z + 1) + 1) + 1) 9 k20 := ⟨_, rfl⟩
  have h := zlet_at eS22 h
  rw [← eS22] at hH
  obtain ⟨S23, eS23, h⟩ := zb_some h
  refine z_putF X hin flX1_25 rfl fpX1_5 rfl ⟨_, _, _, rfl, fqX1_25⟩ (fun _ => ⟨rfl, rfl⟩) hH hS eS23 dX1_init_35 (fun H locs hH hS => ?_)
  refine lv_aload_n hx hb dX1_init_38 rfl (lv_at hl 0 rfl) ?_
  refine lv_aload_n hx hb dX1_init_39 rfl (lv_at hl 1 rfl) ?_
  obtain ⟨S24, eS24, h⟩ := zb_some h
  refine z_putF X hin flX1_28 rfl fpX1_0 rfl ⟨_, _, _, rfl, fqX1_28⟩ (fun _ => ⟨rfl, rfl⟩) hH hS eS24 dX1_init_40 (fun H locs hH hS => ?_)
  refine lv_aload_n hx hb dX1_init_43 rfl (lv_at hl 0 rfl) ?_
  refine lv_aload_n hx hb dX1_init_44 rfl (lv_at hl 2 rfl) ?_
  obtain ⟨S25, eS25, h⟩ := zb_some h
  refine z_putF X hin flX1_32 rfl fpX1_1 rfl ⟨_, _, _, rfl, fqX1_32⟩ (fun _ => ⟨rfl, rfl⟩) hH hS eS25 dX1_init_45 (fun H locs hH hS => ?_)
  refine lv_iconst (v := (0 : Int32)) hx hb dX1_init_48 (by decide) ?_
  refine lv_istore_n (lv' := [(3, .int (0 : Int32)), (0, .ref x0), (1, .ref x1), (2, .ref x2)]) hx hb dX1_init_49 rfl hl (by decide) rfl (fun ls hl => ?_)
  exact uX1_init_50 X hA hin h _ _ _ hH hS (lv_sub hl [1, 0] rfl)
set_option maxRecDepth 100000 in
theorem kX1_init {N : Nat} {MC MS zT : Nat} {T : zS} {S : zS} {z : Nat} {x0 : Nat} {x1 : Nat} {x2 : Nat} (hA0 : ∀ q : Nat, z ≤ q → A q) (h : rX1_init N MC MS S z 0 0 x0 x1 x2 = some (T, zT)) : Met l yX1_init [.code yX1_init cX1_init 4 none] ({ frames := 2, cells := MC, slots := MS, locals := 42 } : Room) (zP D cy A S z [.ref x0, .ref x1, .ref x2]) (zQ D cy A T zT none) MC MS A := by
  refine z_metI (lv := [(0, .ref x0), (1, .ref x1), (2, .ref x2)]) (by decide) (Nat.le_of_ble_eq_true rfl) rfl rfl ?_
  intro p e s m below meth c X hin hz H locs ls hH hS hl
  exact wX1_init_0 X (fun q hq => hA0 q (by rw [← hz]; exact hq)) hin h _ _ _ hH hS (lv_sub hl [0, 1, 2] rfl)
set_option maxRecDepth 100000 in
set_option maxHeartbeats 4000000 in
theorem wX2_init_0 {N : Nat} {MC MS zT : Nat} {T : zS} (X : zX D cy p s m meth c cX2_init 1 RX2 none) (hA : ∀ q : Nat, s.heap.size ≤ q → A q) (hin : meth.name = "<init>")  {S : zS} {z : Nat} {q : Nat} {w : Nat} {x0 : Nat} (h : rX2_init_0 N MC MS S z q w x0 = some (T, zT)) : zWt D cy A p l e ({ frames := 1, cells := MC, slots := MS, locals := 23 } : Room) s m args below meth c z q w MC MS (zQ D cy A T zT none) S 1 0 [(0, .ref x0)] [] := by
  obtain ⟨hx, hb, hml, hown, hr, hlocks, hT⟩ := id X
  intro H locs ls hH hS hl
  unfold rX2_init_0 at h
  refine lv_aload_n hx hb dX2_init_0 rfl (lv_at hl 0 rfl) ?_
  refine z_objInit X hl oiX2_3 oi_1 oi_2 (Nat.le_of_ble_eq_true rfl) (Nat.le_of_ble_eq_true rfl) dX2_init_1 ?_
  refine lv_aload_n hx hb dX2_init_4 rfl (lv_at hl 0 rfl) ?_
  refine lv_bipush (v := (30 : Int32)) hx hb dX2_init_5 (by decide) ?_
  obtain ⟨k1, ek1, h⟩ := zb_some h
  obtain ⟨u2, eu2, h⟩ := zb_some h
  refine z_newa (t := 9) X (by decide) hH hS (fun q h => hA q (Nat.le_trans (Nat.le_trans hS.1.1 (Nat.le_of_eq hS.2)) h)) ek1 eu2 dX2_init_7 (fun H hH hS => ?_)
  obtain ⟨S3, eS3⟩ : ∃ y : zS, y = zad S z 9 k1 := ⟨_, rfl⟩
  have h := zlet_at eS3 h
  rw [← eS3] at hH
  obtain ⟨S4, eS4, h⟩ := zb_some h
  refine z_putF X hin flX2_9 rfl fpX2_0 rfl ⟨_, _, _, rfl, fqX2_9⟩ (fun _ => ⟨rfl, rfl⟩) hH hS eS4 dX2_init_9 (fun H locs hH hS => ?_)
  refine lv_aload_n hx hb dX2_init_12 rfl (lv_at hl 0 rfl) ?_
  refine lv_bipush (v := (30 : Int32)) hx hb dX2_init_13 (by decide) ?_
  obtain ⟨k5, ek5, h⟩ := zb_some h
  obtain ⟨u6, eu6, h⟩ := zb_some h
  refine z_newa (t := 9) X (by decide) hH hS (fun q h => hA q (Nat.le_trans (Nat.le_trans hS.1.1 (Nat.le_of_eq hS.2)) h)) ek5 eu6 dX2_init_15 (fun H hH hS => ?_)
  obtain ⟨S7, eS7⟩ : ∃ y : zS, y = zad S4 (z + 1) 9 k5 := ⟨_, rfl⟩
  have h := zlet_at eS7 h
  rw [← eS7] at hH
  obtain ⟨S8, eS8, h⟩ := zb_some h
  refine z_putF X hin flX2_15 rfl fpX2_1 rfl ⟨_, _, _, rfl, fqX2_15⟩ (fun _ => ⟨rfl, rfl⟩) hH hS eS8 dX2_init_17 (fun H locs hH hS => ?_)
  refine lv_aload_n hx hb dX2_init_20 rfl (lv_at hl 0 rfl) ?_
  obtain ⟨v9, ev9, h⟩ := zb_some h
  refine z_getr X flX2_9 hH ev9 dX2_init_21 ?_
  refine lv_iconst (v := (-1 : Int32)) hx hb dX2_init_24 (by decide) ?_
  obtain ⟨u10, eu10, h⟩ := zb_some h
  obtain ⟨S11, eS11, h⟩ := zb_some h
  refine z_cS (As := [.ref v9, .int (-1 : Int32)]) X hl hH hS mlX2_18 (kJ7_fill_53178 eS11) rfl rfl (Nat.le_of_ble_eq_true rfl) ⟨rfl, rfl, Nat.le_of_ble_eq_true rfl, Nat.le_of_ble_eq_true rfl⟩ (zbud_at eu10) dX2_init_25 (fun H locs hH hS => ?_)
  exact z_vretA X hH hS h dX2_init_28
set_option maxRecDepth 100000 in
theorem kX2_init {N : Nat} {MC MS zT : Nat} {T : zS} {S : zS} {z : Nat} {x0 : Nat} (hA0 : ∀ q : Nat, z ≤ q → A q) (h : rX2_init N MC MS S z 0 0 x0 = some (T, zT)) : Met l yX2_init [.code yX2_init cX2_init 1 none] ({ frames := 1, cells := MC, slots := MS, locals := 23 } : Room) (zP D cy A S z [.ref x0]) (zQ D cy A T zT none) MC MS A := by
  refine z_metI (lv := [(0, .ref x0)]) (by decide) (Nat.le_of_ble_eq_true rfl) rfl rfl ?_
  intro p e s m below meth c X hin hz H locs ls hH hS hl
  exact wX2_init_0 X (fun q hq => hA0 q (by rw [← hz]; exact hq)) hin h _ _ _ hH hS (lv_sub hl [0] rfl)
set_option maxRecDepth 100000 in
set_option maxHeartbeats 4000000 in
theorem wX3_init_0 {N : Nat} {MC MS zT : Nat} {T : zS} (X : zX D cy p s m meth c cX3_init 1 RX3 none) (hA : ∀ q : Nat, s.heap.size ≤ q → A q) (hin : meth.name = "<init>")  {S : zS} {z : Nat} {q : Nat} {w : Nat} {x0 : Nat} (h : rX3_init_0 N MC MS S z q w x0 = some (T, zT)) : zWt D cy A p l e ({ frames := 1, cells := MC, slots := MS, locals := 12 } : Room) s m args below meth c z q w MC MS (zQ D cy A T zT none) S 1 0 [(0, .ref x0)] [] := by
  obtain ⟨hx, hb, hml, hown, hr, hlocks, hT⟩ := id X
  intro H locs ls hH hS hl
  unfold rX3_init_0 at h
  refine lv_aload_n hx hb dX3_init_0 rfl (lv_at hl 0 rfl) ?_
  refine z_objInit X hl oiX3_3 oi_1 oi_2 (Nat.le_of_ble_eq_true rfl) (Nat.le_of_ble_eq_true rfl) dX3_init_1 ?_
  refine lv_aload_n hx hb dX3_init_4 rfl (lv_at hl 0 rfl) ?_
  refine lv_iconst (v := (1 : Int32)) hx hb dX3_init_5 (by decide) ?_
  obtain ⟨k1, ek1, h⟩ := zb_some h
  obtain ⟨u2, eu2, h⟩ := zb_some h
  refine z_newa (t := 10) X (by decide) hH hS (fun q h => hA q (Nat.le_trans (Nat.le_trans hS.1.1 (Nat.le_of_eq hS.2)) h)) ek1 eu2 dX3_init_6 (fun H hH hS => ?_)
  obtain ⟨S3, eS3⟩ : ∃ y : zS, y = zad S z 10 k1 := ⟨_, rfl⟩
  have h := zlet_at eS3 h
  rw [← eS3] at hH
  obtain ⟨S4, eS4, h⟩ := zb_some h
  refine z_putr X flX3_9 fpX3_0 (fun _ => ⟨rfl, rfl⟩) hH hS eS4 dX3_init_8 (fun H locs hH hS => ?_)
  refine lv_aload_n hx hb dX3_init_11 rfl (lv_at hl 0 rfl) ?_
  refine lv_bipush (v := (16 : Int32)) hx hb dX3_init_12 (by decide) ?_
  obtain ⟨k5, ek5, h⟩ := zb_some h
  obtain ⟨u6, eu6, h⟩ := zb_some h
  refine z_newa (t := 9) X (by decide) hH hS (fun q h => hA q (Nat.le_trans (Nat.le_trans hS.1.1 (Nat.le_of_eq hS.2)) h)) ek5 eu6 dX3_init_14 (fun H hH hS => ?_)
  obtain ⟨S7, eS7⟩ : ∃ y : zS, y = zad S4 (z + 1) 9 k5 := ⟨_, rfl⟩
  have h := zlet_at eS7 h
  rw [← eS7] at hH
  obtain ⟨S8, eS8, h⟩ := zb_some h
  refine z_putF X hin flX3_15 rfl fpX3_1 rfl ⟨_, _, _, rfl, fqX3_15⟩ (fun _ => ⟨rfl, rfl⟩) hH hS eS8 dX3_init_16 (fun H locs hH hS => ?_)
  refine lv_aload_n hx hb dX3_init_19 rfl (lv_at hl 0 rfl) ?_
  refine lv_bipush (v := (24 : Int32)) hx hb dX3_init_20 (by decide) ?_
  obtain ⟨k9, ek9, h⟩ := zb_some h
  obtain ⟨u10, eu10, h⟩ := zb_some h
  refine z_newa (t := 9) X (by decide) hH hS (fun q h => hA q (Nat.le_trans (Nat.le_trans hS.1.1 (Nat.le_of_eq hS.2)) h)) ek9 eu10 dX3_init_22 (fun H hH hS => ?_)
  obtain ⟨S11, eS11⟩ : ∃ y : zS, y = zad S8 ((z + 1) + 1) 9 k9 := ⟨_, rfl⟩
  have h := zlet_at eS11 h
  rw [← eS11] at hH
  obtain ⟨S12, eS12, h⟩ := zb_some h
  refine z_putF X hin flX3_19 rfl fpX3_2 rfl ⟨_, _, _, rfl, fqX3_19⟩ (fun _ => ⟨rfl, rfl⟩) hH hS eS12 dX3_init_24 (fun H locs hH hS => ?_)
  exact z_vretA X hH hS h dX3_init_27
set_option maxRecDepth 100000 in
theorem kX3_init {N : Nat} {MC MS zT : Nat} {T : zS} {S : zS} {z : Nat} {x0 : Nat} (hA0 : ∀ q : Nat, z ≤ q → A q) (h : rX3_init N MC MS S z 0 0 x0 = some (T, zT)) : Met l yX3_init [.code yX3_init cX3_init 1 none] ({ frames := 1, cells := MC, slots := MS, locals := 12 } : Room) (zP D cy A S z [.ref x0]) (zQ D cy A T zT none) MC MS A := by
  refine z_metI (lv := [(0, .ref x0)]) (by decide) (Nat.le_of_ble_eq_true rfl) rfl rfl ?_
  intro p e s m below meth c X hin hz H locs ls hH hS hl
  exact wX3_init_0 X (fun q hq => hA0 q (by rw [← hz]; exact hq)) hin h _ _ _ hH hS (lv_sub hl [0] rfl)
set_option maxRecDepth 100000 in
set_option maxHeartbeats 4000000 in
theorem wX3_ordersOf_74 {N : Nat} {MC MS zT : Nat} {r : Int64} {T : zS} (X : zX D cy p s m meth c cX3_ordersOf 6 RX3 (some .long)) (hA : ∀ q : Nat, s.heap.size ≤ q → A q) {K48 : zS × Nat × Nat × Nat × Nat × Int32 × Int32 × Int32 → Option (Int64 × zS × Nat)} (hK48 : ∀ (S : zS) (z : Nat) (q : Nat) (w : Nat) (x0 : Nat) (x3 : Int32) (x4 : Int32) (x5 : Int32), K48 (S, z, q, w, x0, x3, x4, x5) = some (r, T, zT) → zWt D cy A p l e ({ frames := 3, cells := MC, slots := MS, locals := 71 } : Room) s m args below meth c z q w MC MS (zQ D cy A T zT (some (.long r))) S 6 48 [(0, .ref x0), (3, .int x3), (4, .int x4), (5, .int x5)] []) {S : zS} {z : Nat} {q : Nat} {w : Nat} {x0 : Nat} {x3 : Int32} {x4 : Int32} {x5 : Int32} (h : rX3_ordersOf_74 N MC MS K48 S z q w x0 x3 x4 x5 = some (r, T, zT)) : zWt D cy A p l e ({ frames := 3, cells := MC, slots := MS, locals := 71 } : Room) s m args below meth c z q w MC MS (zQ D cy A T zT (some (.long r))) S 6 74 [(0, .ref x0), (3, .int x3), (4, .int x4), (5, .int x5)] [] := by
  obtain ⟨hx, hb, hml, hown, hr, hlocks, hT⟩ := id X
  intro H locs ls hH hS hl
  unfold rX3_ordersOf_74 at h
  refine lv_iinc (v := (x5 + (1 : Int32))) (lv' := [(5, .int (x5 + (1 : Int32))), (0, .ref x0), (3, .int x3), (4, .int x4)]) hx hb dX3_ordersOf_74 hl (k := 3) rfl (z_ii (by decide) _) (by decide) rfl (fun ls hl => ?_)
  refine lv_goto (tgt := 48) hx hb dX3_ordersOf_77 (by decide) ?_
  exact hK48 _ _ _ _ _ _ _ _ h _ _ _ hH hS (lv_sub hl [1, 2, 3, 0] rfl)
set_option maxRecDepth 100000 in
set_option maxHeartbeats 4000000 in
theorem wX3_ordersOf_48 {N : Nat} {MC MS zT : Nat} {r : Int64} {T : zS} (X : zX D cy p s m meth c cX3_ordersOf 6 RX3 (some .long)) (hA : ∀ q : Nat, s.heap.size ≤ q → A q) {K48 : zS × Nat × Nat × Nat × Nat × Int32 × Int32 × Int32 → Option (Int64 × zS × Nat)} (hK48 : ∀ (S : zS) (z : Nat) (q : Nat) (w : Nat) (x0 : Nat) (x3 : Int32) (x4 : Int32) (x5 : Int32), K48 (S, z, q, w, x0, x3, x4, x5) = some (r, T, zT) → zWt D cy A p l e ({ frames := 3, cells := MC, slots := MS, locals := 71 } : Room) s m args below meth c z q w MC MS (zQ D cy A T zT (some (.long r))) S 6 48 [(0, .ref x0), (3, .int x3), (4, .int x4), (5, .int x5)] []) {S : zS} {z : Nat} {q : Nat} {w : Nat} {x0 : Nat} {x3 : Int32} {x4 : Int32} {x5 : Int32} (h : rX3_ordersOf_48 N MC MS K48 S z q w x0 x3 x4 x5 = some (r, T, zT)) : zWt D cy A p l e ({ frames := 3, cells := MC, slots := MS, locals := 71 } : Room) s m args below meth c z q w MC MS (zQ D cy A T zT (some (.long r))) S 6 48 [(0, .ref x0), (3, .int x3), (4, .int x4), (5, .int x5)] [] := by
  obtain ⟨hx, hb, hml, hown, hr, hlocks, hT⟩ := id X
  intro H locs ls hH hS hl
  unfold rX3_ordersOf_48 at h
  refine lv_iload hx hb dX3_ordersOf_48 (lv_at hl 3 rfl) ?_
  refine lv_iload hx hb dX3_ordersOf_50 (lv_at hl 2 rfl) ?_
  refine lv_icmp_ge (tgt := 80) hx hb dX3_ordersOf_52 (by decide) (fun c => ?_) (fun c => ?_)
  · have h := (if_pos c).symm.trans h
    refine lv_aload_n hx hb dX3_ordersOf_80 rfl (lv_at hl 0 rfl) ?_
    obtain ⟨v1, ev1, h⟩ := zb_some h
    refine z_getr X flX3_9 hH ev1 dX3_ordersOf_81 ?_
    refine lv_iload hx hb dX3_ordersOf_84 (lv_at hl 2 rfl) ?_
    refine lv_iconst (v := (1 : Int32)) hx hb dX3_ordersOf_86 (by decide) ?_
    refine lv_isub hx hb dX3_ordersOf_87 ?_
    obtain ⟨v2, ev2, h⟩ := zb_some h
    refine z_lald X hH ev2 dX3_ordersOf_88 ?_
    exact z_lretA X hH hS h dX3_ordersOf_89
  · have h := (if_neg c).symm.trans h
    refine lv_aload_n hx hb dX3_ordersOf_55 rfl (lv_at hl 0 rfl) ?_
    obtain ⟨v3, ev3, h⟩ := zb_some h
    refine z_getr X flX3_9 hH ev3 dX3_ordersOf_56 ?_
    refine lv_iload hx hb dX3_ordersOf_59 (lv_at hl 3 rfl) ?_
    obtain ⟨v4, ev4, h⟩ := zb_some h
    refine z_lald X hH ev4 dX3_ordersOf_61 ?_
    refine lv_lconst (v := (0 : Int64)) hx hb dX3_ordersOf_62 (by decide) ?_
    refine W.lcmp hx hb dX3_ordersOf_63 ?_
    refine lv_if_eq (tgt := 74) hx hb dX3_ordersOf_64 (by decide) (fun c => ?_) (fun c => ?_)
    · have h := (if_pos c).symm.trans h
      exact wX3_ordersOf_74 X hA hK48 h _ _ _ hH hS (lv_sub hl [0, 1, 2, 3] rfl)
    · have h := (if_neg c).symm.trans h
      refine lv_aload_n hx hb dX3_ordersOf_67 rfl (lv_at hl 0 rfl) ?_
      refine lv_iload hx hb dX3_ordersOf_68 (lv_at hl 3 rfl) ?_
      refine lv_iload_n hx hb dX3_ordersOf_70 rfl (lv_at hl 1 rfl) ?_
      obtain ⟨u5, eu5, h⟩ := zb_some h
      obtain ⟨u6, eu6, h⟩ := zb_some h
      obtain ⟨S7, eS7, h⟩ := zb_some h
      refine z_cV (As := [.int x5, .int x3]) X hl hH hS mlX3_32 eu6 (kX3_doOneMore eS7) rfl rfl (Nat.le_of_ble_eq_true rfl) ⟨rfl, rfl, Nat.le_of_ble_eq_true rfl, Nat.le_of_ble_eq_true rfl⟩ (zbud_at eu5) dX3_ordersOf_71 (fun H locs hH hS => ?_)
      exact wX3_ordersOf_74 X hA hK48 h _ _ _ hH hS (lv_sub hl [0, 1, 2, 3] rfl)
set_option maxRecDepth 100000 in
set_option maxHeartbeats 4000000 in
theorem uX3_ordersOf_48 {N : Nat} {MC MS zT : Nat} {r : Int64} {T : zS} (X : zX D cy p s m meth c cX3_ordersOf 6 RX3 (some .long)) (hA : ∀ q : Nat, s.heap.size ≤ q → A q)  {S : zS} {z : Nat} {q : Nat} {w : Nat} {x0 : Nat} {x3 : Int32} {x4 : Int32} {x5 : Int32} (h : rlX3_ordersOf_48 N MC MS S z q w x0 x3 x4 x5 = some (r, T, zT)) : zWt D cy A p l e ({ frames := 3, cells := MC, slots := MS, locals := 71 } : Room) s m args below meth c z q w MC MS (zQ D cy A T zT (some (.long r))) S 6 48 [(0, .ref x0), (3, .int x3), (4, .int x4), (5, .int x5)] [] := by
  unfold rlX3_ordersOf_48 at h
  refine zloop_ind (P := fun y => zWt D cy A p l e ({ frames := 3, cells := MC, slots := MS, locals := 71 } : Room) s m args below meth c y.2.1 y.2.2.1 y.2.2.2.1 MC MS (zQ D cy A T zT (some (.long r))) y.1 6 48 [(0, .ref y.2.2.2.2.1), (3, .int y.2.2.2.2.2.1), (4, .int y.2.2.2.2.2.2.1), (5, .int y.2.2.2.2.2.2.2)] []) ?_ N (S, z, q, w, x0, x3, x4, x5) h
  intro K hK y hy
  obtain ⟨S, z, q, w, x0, x3, x4, x5⟩ := y
  exact wX3_ordersOf_48 X hA (fun S z q w x0 x3 x4 x5 hq => hK (S, z, q, w, x0, x3, x4, x5) hq) hy
set_option maxRecDepth 100000 in
set_option maxHeartbeats 4000000 in
theorem wX3_ordersOf_30 {N : Nat} {MC MS zT : Nat} {r : Int64} {T : zS} (X : zX D cy p s m meth c cX3_ordersOf 6 RX3 (some .long)) (hA : ∀ q : Nat, s.heap.size ≤ q → A q)  {S : zS} {z : Nat} {q : Nat} {w : Nat} {x0 : Nat} {x3 : Int32} {x4 : Int32} (h : rX3_ordersOf_30 N MC MS S z q w x0 x3 x4 = some (r, T, zT)) : zWt D cy A p l e ({ frames := 3, cells := MC, slots := MS, locals := 71 } : Room) s m args below meth c z q w MC MS (zQ D cy A T zT (some (.long r))) S 6 30 [(0, .ref x0), (3, .int x3), (4, .int x4)] [] := by
  obtain ⟨hx, hb, hml, hown, hr, hlocks, hT⟩ := id X
  intro H locs ls hH hS hl
  unfold rX3_ordersOf_30 at h
  refine lv_aload_n hx hb dX3_ordersOf_30 rfl (lv_at hl 0 rfl) ?_
  obtain ⟨v8, ev8, h⟩ := zb_some h
  refine z_getr X flX3_9 hH ev8 dX3_ordersOf_31 ?_
  refine lv_lconst (v := (0 : Int64)) hx hb dX3_ordersOf_34 (by decide) ?_
  obtain ⟨u9, eu9, h⟩ := zb_some h
  obtain ⟨S10, eS10, h⟩ := zb_some h
  refine z_cS (As := [.ref v8, .long (0 : Int64)]) X hl hH hS mlX3_26 (kJ7_fill_d0a16 eS10) rfl rfl (Nat.le_of_ble_eq_true rfl) ⟨rfl, rfl, Nat.le_of_ble_eq_true rfl, Nat.le_of_ble_eq_true rfl⟩ (zbud_at eu9) dX3_ordersOf_35 (fun H locs hH hS => ?_)
  refine lv_aload_n hx hb dX3_ordersOf_38 rfl (lv_at hl 0 rfl) ?_
  obtain ⟨v11, ev11, h⟩ := zb_some h
  refine z_getr X flX3_9 hH ev11 dX3_ordersOf_39 ?_
  refine lv_iconst (v := (0 : Int32)) hx hb dX3_ordersOf_42 (by decide) ?_
  refine lv_lconst (v := (1 : Int64)) hx hb dX3_ordersOf_43 (by decide) ?_
  obtain ⟨S12, eS12, h⟩ := zb_some h
  refine z_last X hH hS eS12 dX3_ordersOf_44 (fun H locs hH hS => ?_)
  refine lv_iconst (v := (0 : Int32)) hx hb dX3_ordersOf_45 (by decide) ?_
  refine lv_istore (lv' := [(5, .int (0 : Int32)), (0, .ref x0), (3, .int x3), (4, .int x4)]) hx hb dX3_ordersOf_46 hl (by decide) rfl (fun ls hl => ?_)
  exact uX3_ordersOf_48 X hA h _ _ _ hH hS (lv_sub hl [1, 2, 3, 0] rfl)
set_option maxRecDepth 100000 in
set_option maxHeartbeats 4000000 in
theorem wX3_ordersOf_0 {N : Nat} {MC MS zT : Nat} {r : Int64} {T : zS} (X : zX D cy p s m meth c cX3_ordersOf 6 RX3 (some .long)) (hA : ∀ q : Nat, s.heap.size ≤ q → A q)  {S : zS} {z : Nat} {q : Nat} {w : Nat} {x0 : Nat} {x1 : Nat} {x2 : Int32} (h : rX3_ordersOf_0 N MC MS S z q w x0 x1 x2 = some (r, T, zT)) : zWt D cy A p l e ({ frames := 3, cells := MC, slots := MS, locals := 71 } : Room) s m args below meth c z q w MC MS (zQ D cy A T zT (some (.long r))) S 6 0 [(0, .ref x0), (1, .ref x1), (2, .int x2)] [] := by
  obtain ⟨hx, hb, hml, hown, hr, hlocks, hT⟩ := id X
  intro H locs ls hH hS hl
  unfold rX3_ordersOf_0 at h
  refine lv_aload_n hx hb dX3_ordersOf_0 rfl (lv_at hl 0 rfl) ?_
  refine lv_aload_n hx hb dX3_ordersOf_1 rfl (lv_at hl 1 rfl) ?_
  refine lv_iload_n hx hb dX3_ordersOf_2 rfl (lv_at hl 2 rfl) ?_
  obtain ⟨u13, eu13, h⟩ := zb_some h
  obtain ⟨u14, eu14, h⟩ := zb_some h
  obtain ⟨v16, S15, eS15, h⟩ := zb2_some h
  refine z_cV (As := [.ref x1, .int x2]) X hl hH hS mlX3_22 eu14 (kX3_numberOthers eS15) rfl rfl (Nat.le_of_ble_eq_true rfl) ⟨rfl, rfl, Nat.le_of_ble_eq_true rfl, Nat.le_of_ble_eq_true rfl⟩ (zbud_at eu13) dX3_ordersOf_3 (fun H locs hH hS => ?_)
  refine lv_istore_n (lv' := [(3, .int v16), (0, .ref x0), (1, .ref x1), (2, .int x2)]) hx hb dX3_ordersOf_6 rfl hl (by decide) rfl (fun ls hl => ?_)
  refine lv_iconst (v := (1 : Int32)) hx hb dX3_ordersOf_7 (by decide) ?_
  refine lv_iload_n hx hb dX3_ordersOf_8 rfl (lv_at hl 0 rfl) ?_
  refine lv_ishl hx hb dX3_ordersOf_9 ?_
  refine lv_istore (lv' := [(4, .int ((1 : Int32) <<< (v16 &&& 31))), (3, .int v16), (0, .ref x0), (1, .ref x1), (2, .int x2)]) hx hb dX3_ordersOf_10 hl (by decide) rfl (fun ls hl => ?_)
  refine lv_aload_n hx hb dX3_ordersOf_12 rfl (lv_at hl 2 rfl) ?_
  obtain ⟨v17, ev17, h⟩ := zb_some h
  refine z_getr X flX3_9 hH ev17 dX3_ordersOf_13 ?_
  obtain ⟨v18, ev18, h⟩ := zb_some h
  refine z_alen X hH 10 (by decide) ev18 dX3_ordersOf_16 ?_
  refine lv_iload hx hb dX3_ordersOf_17 (lv_at hl 0 rfl) ?_
  refine lv_icmp_ge (tgt := 30) hx hb dX3_ordersOf_19 (by decide) (fun c => ?_) (fun c => ?_)
  · have h := (if_pos c).symm.trans h
    exact wX3_ordersOf_30 X hA h _ _ _ hH hS (lv_sub hl [2, 1, 0] rfl)
  · have h := (if_neg c).symm.trans h
    refine lv_aload_n hx hb dX3_ordersOf_22 rfl (lv_at hl 2 rfl) ?_
    refine lv_iload hx hb dX3_ordersOf_23 (lv_at hl 0 rfl) ?_
    obtain ⟨k19, ek19, h⟩ := zb_some h
    obtain ⟨u20, eu20, h⟩ := zb_some h
    refine z_newa (t := 10) X (by decide) hH hS (fun q h => hA q (Nat.le_trans (Nat.le_trans hS.1.1 (Nat.le_of_eq hS.2)) h)) ek19 eu20 dX3_ordersOf_25 (fun H hH hS => ?_)
    obtain ⟨S21, eS21⟩ : ∃ y : zS, y = zad S15 z 10 k19 := ⟨_, rfl⟩
    have h := zlet_at eS21 h
    rw [← eS21] at hH
    obtain ⟨S22, eS22, h⟩ := zb_some h
    refine z_putr X flX3_9 fpX3_0 (fun _ => ⟨rfl, rfl⟩) hH hS eS22 dX3_ordersOf_27 (fun H locs hH hS => ?_)
    exact wX3_ordersOf_30 X hA h _ _ _ hH hS (lv_sub hl [2, 1, 0] rfl)
set_option maxRecDepth 100000 in
theorem kX3_ordersOf {N : Nat} {MC MS zT : Nat} {r : Int64} {T : zS} {S : zS} {z : Nat} {x0 : Nat} {x1 : Nat} {x2 : Int32} (hA0 : ∀ q : Nat, z ≤ q → A q) (h : rX3_ordersOf N MC MS S z 0 0 x0 x1 x2 = some (r, T, zT)) : Met l yX3_ordersOf [.code yX3_ordersOf cX3_ordersOf 6 (some .long)] ({ frames := 3, cells := MC, slots := MS, locals := 71 } : Room) (zP D cy A S z [.ref x0, .ref x1, .int x2]) (zQ D cy A T zT (some (.long r))) MC MS A := by
  refine z_metA (lv := [(0, .ref x0), (1, .ref x1), (2, .int x2)]) (by decide) (Nat.le_of_ble_eq_true rfl) rfl ?_
  intro p e s m below meth c X hz H locs ls hH hS hl
  exact wX3_ordersOf_0 X (fun q hq => hA0 q (by rw [← hz]; exact hq)) h _ _ _ hH hS (lv_sub hl [0, 1, 2] rfl)
set_option maxRecDepth 100000 in
set_option maxHeartbeats 4000000 in
theorem wX4_init_0 {N : Nat} {MC MS zT : Nat} {T : zS} (X : zX D cy p s m meth c cX4_init 1 RX4 none) (hA : ∀ q : Nat, s.heap.size ≤ q → A q) (hin : meth.name = "<init>")  {S : zS} {z : Nat} {q : Nat} {w : Nat} {x0 : Nat} (h : rX4_init_0 N MC MS S z q w x0 = some (T, zT)) : zWt D cy A p l e ({ frames := 1, cells := MC, slots := MS, locals := 12 } : Room) s m args below meth c z q w MC MS (zQ D cy A T zT none) S 1 0 [(0, .ref x0)] [] := by
  obtain ⟨hx, hb, hml, hown, hr, hlocks, hT⟩ := id X
  intro H locs ls hH hS hl
  unfold rX4_init_0 at h
  refine lv_aload_n hx hb dX4_init_0 rfl (lv_at hl 0 rfl) ?_
  refine z_objInit X hl oiX4_3 oi_1 oi_2 (Nat.le_of_ble_eq_true rfl) (Nat.le_of_ble_eq_true rfl) dX4_init_1 ?_
  refine lv_aload_n hx hb dX4_init_4 rfl (lv_at hl 0 rfl) ?_
  refine lv_bipush (v := (24 : Int32)) hx hb dX4_init_5 (by decide) ?_
  obtain ⟨k1, ek1, h⟩ := zb_some h
  obtain ⟨u2, eu2, h⟩ := zb_some h
  refine z_newa (t := 9) X (by decide) hH hS (fun q h => hA q (Nat.le_trans (Nat.le_trans hS.1.1 (Nat.le_of_eq hS.2)) h)) ek1 eu2 dX4_init_7 (fun H hH hS => ?_)
  obtain ⟨S3, eS3⟩ : ∃ y : zS, y = zad S z 9 k1 := ⟨_, rfl⟩
  have h := zlet_at eS3 h
  rw [← eS3] at hH
  obtain ⟨S4, eS4, h⟩ := zb_some h
  refine z_putF X hin flX4_9 rfl fpX4_0 rfl ⟨_, _, _, rfl, fqX4_9⟩ (fun _ => ⟨rfl, rfl⟩) hH hS eS4 dX4_init_9 (fun H locs hH hS => ?_)
  refine lv_aload_n hx hb dX4_init_12 rfl (lv_at hl 0 rfl) ?_
  refine lv_bipush (v := (24 : Int32)) hx hb dX4_init_13 (by decide) ?_
  obtain ⟨k5, ek5, h⟩ := zb_some h
  obtain ⟨u6, eu6, h⟩ := zb_some h
  refine z_newa (t := 9) X (by decide) hH hS (fun q h => hA q (Nat.le_trans (Nat.le_trans hS.1.1 (Nat.le_of_eq hS.2)) h)) ek5 eu6 dX4_init_15 (fun H hH hS => ?_)
  obtain ⟨S7, eS7⟩ : ∃ y : zS, y = zad S4 (z + 1) 9 k5 := ⟨_, rfl⟩
  have h := zlet_at eS7 h
  rw [← eS7] at hH
  obtain ⟨S8, eS8, h⟩ := zb_some h
  refine z_putF X hin flX4_15 rfl fpX4_1 rfl ⟨_, _, _, rfl, fqX4_15⟩ (fun _ => ⟨rfl, rfl⟩) hH hS eS8 dX4_init_17 (fun H locs hH hS => ?_)
  refine lv_aload_n hx hb dX4_init_20 rfl (lv_at hl 0 rfl) ?_
  refine lv_bipush (v := (24 : Int32)) hx hb dX4_init_21 (by decide) ?_
  obtain ⟨k9, ek9, h⟩ := zb_some h
  obtain ⟨u10, eu10, h⟩ := zb_some h
  refine z_newa (t := 9) X (by decide) hH hS (fun q h => hA q (Nat.le_trans (Nat.le_trans hS.1.1 (Nat.le_of_eq hS.2)) h)) ek9 eu10 dX4_init_23 (fun H hH hS => ?_)
  obtain ⟨S11, eS11⟩ : ∃ y : zS, y = zad S8 ((z + 1) + 1) 9 k9 := ⟨_, rfl⟩
  have h := zlet_at eS11 h
  rw [← eS11] at hH
  obtain ⟨S12, eS12, h⟩ := zb_some h
  refine z_putF X hin flX4_18 rfl fpX4_2 rfl ⟨_, _, _, rfl, fqX4_18⟩ (fun _ => ⟨rfl, rfl⟩) hH hS eS12 dX4_init_25 (fun H locs hH hS => ?_)
  refine lv_aload_n hx hb dX4_init_28 rfl (lv_at hl 0 rfl) ?_
  refine lv_bipush (v := (96 : Int32)) hx hb dX4_init_29 (by decide) ?_
  obtain ⟨k13, ek13, h⟩ := zb_some h
  obtain ⟨u14, eu14, h⟩ := zb_some h
  refine z_newa (t := 9) X (by decide) hH hS (fun q h => hA q (Nat.le_trans (Nat.le_trans hS.1.1 (Nat.le_of_eq hS.2)) h)) ek13 eu14 dX4_init_31 (fun H hH hS => ?_)
  obtain ⟨S15, eS15⟩ : ∃ y : zS, y = zad S12 (((z + 1) + 1) + 1) 9 k13 := ⟨_, rfl⟩
  have h := zlet_at eS15 h
  rw [← eS15] at hH
  obtain ⟨S16, eS16, h⟩ := zb_some h
  refine z_putF X hin flX4_21 rfl fpX4_3 rfl ⟨_, _, _, rfl, fqX4_21⟩ (fun _ => ⟨rfl, rfl⟩) hH hS eS16 dX4_init_33 (fun H locs hH hS => ?_)
  refine lv_aload_n hx hb dX4_init_36 rfl (lv_at hl 0 rfl) ?_
  refine lv_bipush (v := (24 : Int32)) hx hb dX4_init_37 (by decide) ?_
  obtain ⟨k17, ek17, h⟩ := zb_some h
  obtain ⟨u18, eu18, h⟩ := zb_some h
  refine z_newa (t := 9) X (by decide) hH hS (fun q h => hA q (Nat.le_trans (Nat.le_trans hS.1.1 (Nat.le_of_eq hS.2)) h)) ek17 eu18 dX4_init_39 (fun H hH hS => ?_)
  obtain ⟨S19, eS19⟩ : ∃ y : zS, y = zad S16 ((((z + 1) + 1) + 1) + 1) 9 k17 := ⟨_, rfl⟩
  have h := zlet_at eS19 h
  rw [← eS19] at hH
  obtain ⟨S20, eS20, h⟩ := zb_some h
  refine z_putF X hin flX4_24 rfl fpX4_4 rfl ⟨_, _, _, rfl, fqX4_24⟩ (fun _ => ⟨rfl, rfl⟩) hH hS eS20 dX4_init_41 (fun H locs hH hS => ?_)
  refine lv_aload_n hx hb dX4_init_44 rfl (lv_at hl 0 rfl) ?_
  refine lv_bipush (v := (24 : Int32)) hx hb dX4_init_45 (by decide) ?_
  obtain ⟨k21, ek21, h⟩ := zb_some h
  obtain ⟨u22, eu22, h⟩ := zb_some h
  refine z_newa (t := 9) X (by decide) hH hS (fun q h => hA q (Nat.le_trans (Nat.le_trans hS.1.1 (Nat.le_of_eq hS.2)) h)) ek21 eu22 dX4_init_47 (fun H hH hS => ?_)
  obtain ⟨S23, eS23⟩ : ∃ y : zS, y = zad S20 (((((z + 1) + 1) + 1) + 1) + 1) 9 k21 := ⟨_, rfl⟩
  have h := zlet_at eS23 h
  rw [← eS23] at hH
  obtain ⟨S24, eS24, h⟩ := zb_some h
  refine z_putF X hin flX4_27 rfl fpX4_5 rfl ⟨_, _, _, rfl, fqX4_27⟩ (fun _ => ⟨rfl, rfl⟩) hH hS eS24 dX4_init_49 (fun H locs hH hS => ?_)
  refine lv_aload_n hx hb dX4_init_52 rfl (lv_at hl 0 rfl) ?_
  refine lv_bipush (v := (24 : Int32)) hx hb dX4_init_53 (by decide) ?_
  obtain ⟨k25, ek25, h⟩ := zb_some h
  obtain ⟨u26, eu26, h⟩ := zb_some h
  refine z_newa (t := 9) X (by decide) hH hS (fun q h => hA q (Nat.le_trans (Nat.le_trans hS.1.1 (Nat.le_of_eq hS.2)) h)) ek25 eu26 dX4_init_55 (fun H hH hS => ?_)
  obtain ⟨S27, eS27⟩ : ∃ y : zS, y = zad S24 ((((((z + 1) + 1) + 1) + 1) + 1) + 1) 9 k25 := ⟨_, rfl⟩
  have h := zlet_at eS27 h
  rw [← eS27] at hH
  obtain ⟨S28, eS28, h⟩ := zb_some h
  refine z_putF X hin flX4_30 rfl fpX4_6 rfl ⟨_, _, _, rfl, fqX4_30⟩ (fun _ => ⟨rfl, rfl⟩) hH hS eS28 dX4_init_57 (fun H locs hH hS => ?_)
  refine lv_aload_n hx hb dX4_init_60 rfl (lv_at hl 0 rfl) ?_
  refine lv_bipush (v := (24 : Int32)) hx hb dX4_init_61 (by decide) ?_
  obtain ⟨k29, ek29, h⟩ := zb_some h
  obtain ⟨u30, eu30, h⟩ := zb_some h
  refine z_newa (t := 9) X (by decide) hH hS (fun q h => hA q (Nat.le_trans (Nat.le_trans hS.1.1 (Nat.le_of_eq hS.2)) h)) ek29 eu30 dX4_init_63 (fun H hH hS => ?_)
  obtain ⟨S31, eS31⟩ : ∃ y : zS, y = zad S28 (((((((z + 1) + 1) + 1) + 1) + 1) + 1) + 1) 9 k29 := ⟨_, rfl⟩
  have h := zlet_at eS31 h
  rw [← eS31] at hH
  obtain ⟨S32, eS32, h⟩ := zb_some h
  refine z_putF X hin flX4_33 rfl fpX4_7 rfl ⟨_, _, _, rfl, fqX4_33⟩ (fun _ => ⟨rfl, rfl⟩) hH hS eS32 dX4_init_65 (fun H locs hH hS => ?_)
  exact z_vretA X hH hS h dX4_init_68
set_option maxRecDepth 100000 in
theorem kX4_init {N : Nat} {MC MS zT : Nat} {T : zS} {S : zS} {z : Nat} {x0 : Nat} (hA0 : ∀ q : Nat, z ≤ q → A q) (h : rX4_init N MC MS S z 0 0 x0 = some (T, zT)) : Met l yX4_init [.code yX4_init cX4_init 1 none] ({ frames := 1, cells := MC, slots := MS, locals := 12 } : Room) (zP D cy A S z [.ref x0]) (zQ D cy A T zT none) MC MS A := by
  refine z_metI (lv := [(0, .ref x0)]) (by decide) (Nat.le_of_ble_eq_true rfl) rfl rfl ?_
  intro p e s m below meth c X hin hz H locs ls hH hS hl
  exact wX4_init_0 X (fun q hq => hA0 q (by rw [← hz]; exact hq)) hin h _ _ _ hH hS (lv_sub hl [0] rfl)
set_option maxRecDepth 100000 in
set_option maxHeartbeats 4000000 in
theorem wX6_init_28 {N : Nat} {MC MS zT : Nat} {T : zS} (X : zX D cy p s m meth c cX6_init 2 RX6 none) (hA : ∀ q : Nat, s.heap.size ≤ q → A q) (hin : meth.name = "<init>") {K28 : zS × Nat × Nat × Nat × Nat × Int32 → Option (zS × Nat)} (hK28 : ∀ (S : zS) (z : Nat) (q : Nat) (w : Nat) (x0 : Nat) (x1 : Int32), K28 (S, z, q, w, x0, x1) = some (T, zT) → zWt D cy A p l e ({ frames := 2, cells := MC, slots := MS, locals := 42 } : Room) s m args below meth c z q w MC MS (zQ D cy A T zT none) S 2 28 [(0, .ref x0), (1, .int x1)] []) {S : zS} {z : Nat} {q : Nat} {w : Nat} {x0 : Nat} {x1 : Int32} (h : rX6_init_28 N MC MS K28 S z q w x0 x1 = some (T, zT)) : zWt D cy A p l e ({ frames := 2, cells := MC, slots := MS, locals := 42 } : Room) s m args below meth c z q w MC MS (zQ D cy A T zT none) S 2 28 [(0, .ref x0), (1, .int x1)] [] := by
  obtain ⟨hx, hb, hml, hown, hr, hlocks, hT⟩ := id X
  intro H locs ls hH hS hl
  unfold rX6_init_28 at h
  refine lv_iload_n hx hb dX6_init_28 rfl (lv_at hl 1 rfl) ?_
  refine lv_bipush (v := (20 : Int32)) hx hb dX6_init_29 (by decide) ?_
  refine lv_icmp_ge (tgt := 55) hx hb dX6_init_31 (by decide) (fun c => ?_) (fun c => ?_)
  · have h := (if_pos c).symm.trans h
    exact z_vretA X hH hS h dX6_init_55
  · have h := (if_neg c).symm.trans h
    refine lv_aload_n hx hb dX6_init_34 rfl (lv_at hl 0 rfl) ?_
    obtain ⟨v1, ev1, h⟩ := zb_some h
    refine z_getr X flX6_20 hH ev1 dX6_init_35 ?_
    refine lv_iload_n hx hb dX6_init_38 rfl (lv_at hl 1 rfl) ?_
    obtain ⟨u2, eu2, h⟩ := zb_some h
    refine z_new X nlX6_9 hH hS (fun q h => hA q (Nat.le_trans (Nat.le_trans hS.1.1 (Nat.le_of_eq hS.2)) h)) eu2 dX6_init_39 (fun H hH hS => ?_)
    obtain ⟨S3, eS3⟩ : ∃ y : zS, y = zad S z 5 0 := ⟨_, rfl⟩
    have h := zlet_at eS3 h
    rw [← eS3] at hH
    refine lv_dup hx hb dX6_init_42 rfl ?_
    refine lv_bipush (v := (60 : Int32)) hx hb dX6_init_43 (by decide) ?_
    obtain ⟨u4, eu4, h⟩ := zb_some h
    obtain ⟨S5, z6, eS5, h⟩ := zb2_some h
    refine z_cI (As := [.int (60 : Int32)]) X hl hH hS mlX6_11 (kX5_init (fun q h => hA q (Nat.le_trans (Nat.le_trans hS.1.1 (Nat.le_of_eq hS.2)) h)) eS5) rfl rfl (Nat.le_of_ble_eq_true rfl) ⟨rfl, rfl, Nat.le_of_ble_eq_true rfl, Nat.le_of_ble_eq_true rfl⟩ (zbud_at eu4) dX6_init_45 (fun H locs hH hS => ?_)
    obtain ⟨S7, eS7, h⟩ := zb_some h
    refine z_aast X hH hS eS7 dX6_init_48 (fun H locs hH hS => ?_)
    refine lv_iinc (v := (x1 + (1 : Int32))) (lv' := [(1, .int (x1 + (1 : Int32))), (0, .ref x0)]) hx hb dX6_init_49 hl (k := 1) rfl (z_ii (by decide) _) (by decide) rfl (fun ls hl => ?_)
    refine lv_goto (tgt := 28) hx hb dX6_init_52 (by decide) ?_
    exact hK28 _ _ _ _ _ _ h _ _ _ hH hS (lv_sub hl [1, 0] rfl)
set_option maxRecDepth 100000 in
set_option maxHeartbeats 4000000 in
theorem uX6_init_28 {N : Nat} {MC MS zT : Nat} {T : zS} (X : zX D cy p s m meth c cX6_init 2 RX6 none) (hA : ∀ q : Nat, s.heap.size ≤ q → A q) (hin : meth.name = "<init>")  {S : zS} {z : Nat} {q : Nat} {w : Nat} {x0 : Nat} {x1 : Int32} (h : rlX6_init_28 N MC MS S z q w x0 x1 = some (T, zT)) : zWt D cy A p l e ({ frames := 2, cells := MC, slots := MS, locals := 42 } : Room) s m args below meth c z q w MC MS (zQ D cy A T zT none) S 2 28 [(0, .ref x0), (1, .int x1)] [] := by
  unfold rlX6_init_28 at h
  refine zloop_ind (P := fun y => zWt D cy A p l e ({ frames := 2, cells := MC, slots := MS, locals := 42 } : Room) s m args below meth c y.2.1 y.2.2.1 y.2.2.2.1 MC MS (zQ D cy A T zT none) y.1 2 28 [(0, .ref y.2.2.2.2.1), (1, .int y.2.2.2.2.2)] []) ?_ N (S, z, q, w, x0, x1) h
  intro K hK y hy
  obtain ⟨S, z, q, w, x0, x1⟩ := y
  exact wX6_init_28 X hA hin (fun S z q w x0 x1 hq => hK (S, z, q, w, x0, x1) hq) hy
set_option maxRecDepth 100000 in
set_option maxHeartbeats 4000000 in
theorem wX6_init_0 {N : Nat} {MC MS zT : Nat} {T : zS} (X : zX D cy p s m meth c cX6_init 2 RX6 none) (hA : ∀ q : Nat, s.heap.size ≤ q → A q) (hin : meth.name = "<init>")  {S : zS} {z : Nat} {q : Nat} {w : Nat} {x0 : Nat} (h : rX6_init_0 N MC MS S z q w x0 = some (T, zT)) : zWt D cy A p l e ({ frames := 2, cells := MC, slots := MS, locals := 42 } : Room) s m args below meth c z q w MC MS (zQ D cy A T zT none) S 2 0 [(0, .ref x0)] [] := by
  obtain ⟨hx, hb, hml, hown, hr, hlocks, hT⟩ := id X
  intro H locs ls hH hS hl
  unfold rX6_init_0 at h
  refine lv_aload_n hx hb dX6_init_0 rfl (lv_at hl 0 rfl) ?_
  refine z_objInit X hl oiX6_3 oi_1 oi_2 (Nat.le_of_ble_eq_true rfl) (Nat.le_of_ble_eq_true rfl) dX6_init_1 ?_
  refine lv_aload_n hx hb dX6_init_4 rfl (lv_at hl 0 rfl) ?_
  obtain ⟨u8, eu8, h⟩ := zb_some h
  refine z_new X nlX6_9 hH hS (fun q h => hA q (Nat.le_trans (Nat.le_trans hS.1.1 (Nat.le_of_eq hS.2)) h)) eu8 dX6_init_5 (fun H hH hS => ?_)
  obtain ⟨S9, eS9⟩ : ∃ y : zS, y = zad S z 5 0 := ⟨_, rfl⟩
  have h := zlet_at eS9 h
  rw [← eS9] at hH
  refine lv_dup hx hb dX6_init_8 rfl ?_
  refine lv_bipush (v := (60 : Int32)) hx hb dX6_init_9 (by decide) ?_
  obtain ⟨u10, eu10, h⟩ := zb_some h
  obtain ⟨S11, z12, eS11, h⟩ := zb2_some h
  refine z_cI (As := [.int (60 : Int32)]) X hl hH hS mlX6_11 (kX5_init (fun q h => hA q (Nat.le_trans (Nat.le_trans hS.1.1 (Nat.le_of_eq hS.2)) h)) eS11) rfl rfl (Nat.le_of_ble_eq_true rfl) ⟨rfl, rfl, Nat.le_of_ble_eq_true rfl, Nat.le_of_ble_eq_true rfl⟩ (zbud_at eu10) dX6_init_11 (fun H locs hH hS => ?_)
  obtain ⟨S13, eS13, h⟩ := zb_some h
  refine z_putF X hin flX6_14 rfl fpX6_0 rfl ⟨_, _, _, rfl, fqX6_14⟩ (fun _ => ⟨rfl, rfl⟩) hH hS eS13 dX6_init_14 (fun H locs hH hS => ?_)
  refine lv_aload_n hx hb dX6_init_17 rfl (lv_at hl 0 rfl) ?_
  refine lv_bipush (v := (20 : Int32)) hx hb dX6_init_18 (by decide) ?_
  obtain ⟨k14, ek14, h⟩ := zb_some h
  obtain ⟨u15, eu15, h⟩ := zb_some h
  refine z_anew X clX6_9 hH hS (fun q h => hA q (Nat.le_trans (Nat.le_trans hS.1.1 (Nat.le_of_eq hS.2)) h)) ek14 eu15 dX6_init_20 (fun H hH hS => ?_)
  obtain ⟨S16, eS16⟩ : ∃ y : zS, y = zad S13 z12 12 k14 := ⟨_, rfl⟩
  have h := zlet_at eS16 h
  rw [← eS16] at hH
  obtain ⟨S17, eS17, h⟩ := zb_some h
  refine z_putF X hin flX6_20 rfl fpX6_1 rfl ⟨_, _, _, rfl, fqX6_20⟩ (fun _ => ⟨rfl, rfl⟩) hH hS eS17 dX6_init_23 (fun H locs hH hS => ?_)
  refine lv_iconst (v := (0 : Int32)) hx hb dX6_init_26 (by decide) ?_
  refine lv_istore_n (lv' := [(1, .int (0 : Int32)), (0, .ref x0)]) hx hb dX6_init_27 rfl hl (by decide) rfl (fun ls hl => ?_)
  exact uX6_init_28 X hA hin h _ _ _ hH hS (lv_sub hl [1, 0] rfl)
set_option maxRecDepth 100000 in
theorem kX6_init {N : Nat} {MC MS zT : Nat} {T : zS} {S : zS} {z : Nat} {x0 : Nat} (hA0 : ∀ q : Nat, z ≤ q → A q) (h : rX6_init N MC MS S z 0 0 x0 = some (T, zT)) : Met l yX6_init [.code yX6_init cX6_init 2 none] ({ frames := 2, cells := MC, slots := MS, locals := 42 } : Room) (zP D cy A S z [.ref x0]) (zQ D cy A T zT none) MC MS A := by
  refine z_metI (lv := [(0, .ref x0)]) (by decide) (Nat.le_of_ble_eq_true rfl) rfl rfl ?_
  intro p e s m below meth c X hin hz H locs ls hH hS hl
  exact wX6_init_0 X (fun q hq => hA0 q (by rw [← hz]; exact hq)) hin h _ _ _ hH hS (lv_sub hl [0] rfl)
set_option maxRecDepth 100000 in
set_option maxHeartbeats 4000000 in
theorem wX7_init_0 {N : Nat} {MC MS zT : Nat} {T : zS} (X : zX D cy p s m meth c cX7_init 1 RX7 none) (hA : ∀ q : Nat, s.heap.size ≤ q → A q) (hin : meth.name = "<init>")  {S : zS} {z : Nat} {q : Nat} {w : Nat} {x0 : Nat} (h : rX7_init_0 N MC MS S z q w x0 = some (T, zT)) : zWt D cy A p l e ({ frames := 3, cells := MC, slots := MS, locals := 65 } : Room) s m args below meth c z q w MC MS (zQ D cy A T zT none) S 1 0 [(0, .ref x0)] [] := by
  obtain ⟨hx, hb, hml, hown, hr, hlocks, hT⟩ := id X
  intro H locs ls hH hS hl
  unfold rX7_init_0 at h
  refine lv_aload_n hx hb dX7_init_0 rfl (lv_at hl 0 rfl) ?_
  refine z_objInit X hl oiX7_1 oi_1 oi_2 (Nat.le_of_ble_eq_true rfl) (Nat.le_of_ble_eq_true rfl) dX7_init_1 ?_
  refine lv_aload_n hx hb dX7_init_4 rfl (lv_at hl 0 rfl) ?_
  obtain ⟨u1, eu1, h⟩ := zb_some h
  refine z_new X nlX7_7 hH hS (fun q h => hA q (Nat.le_trans (Nat.le_trans hS.1.1 (Nat.le_of_eq hS.2)) h)) eu1 dX7_init_5 (fun H hH hS => ?_)
  obtain ⟨S2, eS2⟩ : ∃ y : zS, y = zad S z 6 0 := ⟨_, rfl⟩
  have h := zlet_at eS2 h
  rw [← eS2] at hH
  refine lv_dup hx hb dX7_init_8 rfl ?_
  obtain ⟨u3, eu3, h⟩ := zb_some h
  obtain ⟨S4, z5, eS4, h⟩ := zb2_some h
  refine z_cI (As := []) X hl hH hS mlX7_9 (kX6_init (fun q h => hA q (Nat.le_trans (Nat.le_trans hS.1.1 (Nat.le_of_eq hS.2)) h)) eS4) rfl rfl (Nat.le_of_ble_eq_true rfl) ⟨rfl, rfl, Nat.le_of_ble_eq_true rfl, Nat.le_of_ble_eq_true rfl⟩ (zbud_at eu3) dX7_init_9 (fun H locs hH hS => ?_)
  obtain ⟨S6, eS6, h⟩ := zb_some h
  refine z_putF X hin flX7_10 rfl fpX7_0 rfl ⟨_, _, _, rfl, fqX7_10⟩ (fun _ => ⟨rfl, rfl⟩) hH hS eS6 dX7_init_12 (fun H locs hH hS => ?_)
  refine lv_aload_n hx hb dX7_init_15 rfl (lv_at hl 0 rfl) ?_
  obtain ⟨u7, eu7, h⟩ := zb_some h
  refine z_new X nlX7_16 hH hS (fun q h => hA q (Nat.le_trans (Nat.le_trans hS.1.1 (Nat.le_of_eq hS.2)) h)) eu7 dX7_init_16 (fun H hH hS => ?_)
  obtain ⟨S8, eS8⟩ : ∃ y : zS, y = zad S6 z5 4 0 := ⟨_, rfl⟩
  have h := zlet_at eS8 h
  rw [← eS8] at hH
  refine lv_dup hx hb dX7_init_19 rfl ?_
  obtain ⟨u9, eu9, h⟩ := zb_some h
  obtain ⟨S10, z11, eS10, h⟩ := zb2_some h
  refine z_cI (As := []) X hl hH hS mlX7_18 (kX4_init (fun q h => hA q (Nat.le_trans (Nat.le_trans hS.1.1 (Nat.le_of_eq hS.2)) h)) eS10) rfl rfl (Nat.le_of_ble_eq_true rfl) ⟨rfl, rfl, Nat.le_of_ble_eq_true rfl, Nat.le_of_ble_eq_true rfl⟩ (zbud_at eu9) dX7_init_20 (fun H locs hH hS => ?_)
  obtain ⟨S12, eS12, h⟩ := zb_some h
  refine z_putF X hin flX7_19 rfl fpX7_1 rfl ⟨_, _, _, rfl, fqX7_19⟩ (fun _ => ⟨rfl, rfl⟩) hH hS eS12 dX7_init_23 (fun H locs hH hS => ?_)
  refine lv_aload_n hx hb dX7_init_26 rfl (lv_at hl 0 rfl) ?_
  refine lv_bipush (v := (8 : Int32)) hx hb dX7_init_27 (by decide) ?_
  refine lv_bipush (v := (8 : Int32)) hx hb dX7_init_29 (by decide) ?_
  obtain ⟨u13, eu13, h⟩ := zb_some h
  refine z_mna (N' := 8) (K' := 8) X clX7_23 hH hS (fun q h => hA q (Nat.le_trans (Nat.le_trans hS.1.1 (Nat.le_of_eq hS.2)) h)) (by decide) (by decide) rfl rfl (by decide) (by decide) eu13 dX7_init_31 (fun H hH hS => ?_)
  obtain ⟨S14, eS14⟩ : ∃ y : zS, y = zad2 S12 z11 8 8 := ⟨_, rfl⟩
  have h := zlet_at eS14 h
  rw [← eS14] at hH
  obtain ⟨S15, eS15, h⟩ := zb_some h
  refine z_putF X hin flX7_25 rfl fpX7_2 rfl ⟨_, _, _, rfl, fqX7_25⟩ (fun _ => ⟨rfl, rfl⟩) hH hS eS15 dX7_init_35 (fun H locs hH hS => ?_)
  refine lv_aload_n hx hb dX7_init_38 rfl (lv_at hl 0 rfl) ?_
  obtain ⟨u16, eu16, h⟩ := zb_some h
  refine z_new X nlX7_28 hH hS (fun q h => hA q (Nat.le_trans (Nat.le_trans hS.1.1 (Nat.le_of_eq hS.2)) h)) eu16 dX7_init_39 (fun H hH hS => ?_)
  obtain ⟨S17, eS17⟩ : ∃ y : zS, y = zad S15 (z11 + 9) 1 0 := ⟨_, rfl⟩
  have h := zlet_at eS17 h
  rw [← eS17] at hH
  refine lv_dup hx hb dX7_init_42 rfl ?_
  refine lv_aload_n hx hb dX7_init_43 rfl (lv_at hl 0 rfl) ?_
  obtain ⟨v18, ev18, h⟩ := zb_some h
  refine z_getr X flX7_19 hH ev18 dX7_init_44 ?_
  refine lv_aload_n hx hb dX7_init_47 rfl (lv_at hl 0 rfl) ?_
  obtain ⟨v19, ev19, h⟩ := zb_some h
  refine z_getr X flX7_10 hH ev19 dX7_init_48 ?_
  obtain ⟨u20, eu20, h⟩ := zb_some h
  obtain ⟨S21, z22, eS21, h⟩ := zb2_some h
  refine z_cI (As := [.ref v18, .ref v19]) X hl hH hS mlX7_30 (kX1_init (fun q h => hA q (Nat.le_trans (Nat.le_trans hS.1.1 (Nat.le_of_eq hS.2)) h)) eS21) rfl rfl (Nat.le_of_ble_eq_true rfl) ⟨rfl, rfl, Nat.le_of_ble_eq_true rfl, Nat.le_of_ble_eq_true rfl⟩ (zbud_at eu20) dX7_init_51 (fun H locs hH hS => ?_)
  obtain ⟨S23, eS23, h⟩ := zb_some h
  refine z_putF X hin flX7_33 rfl fpX7_3 rfl ⟨_, _, _, rfl, fqX7_33⟩ (fun _ => ⟨rfl, rfl⟩) hH hS eS23 dX7_init_54 (fun H locs hH hS => ?_)
  refine lv_aload_n hx hb dX7_init_57 rfl (lv_at hl 0 rfl) ?_
  obtain ⟨u24, eu24, h⟩ := zb_some h
  refine z_new X nlX7_28 hH hS (fun q h => hA q (Nat.le_trans (Nat.le_trans hS.1.1 (Nat.le_of_eq hS.2)) h)) eu24 dX7_init_58 (fun H hH hS => ?_)
  obtain ⟨S25, eS25⟩ : ∃ y : zS, y = zad S23 z22 1 0 := ⟨_, rfl⟩
  have h := zlet_at eS25 h
  rw [← eS25] at hH
  refine lv_dup hx hb dX7_init_61 rfl ?_
  refine lv_aload_n hx hb dX7_init_62 rfl (lv_at hl 0 rfl) ?_
  obtain ⟨v26, ev26, h⟩ := zb_some h
  refine z_getr X flX7_19 hH ev26 dX7_init_63 ?_
  refine lv_aload_n hx hb dX7_init_66 rfl (lv_at hl 0 rfl) ?_
  obtain ⟨v27, ev27, h⟩ := zb_some h
  refine z_getr X flX7_10 hH ev27 dX7_init_67 ?_
  obtain ⟨u28, eu28, h⟩ := zb_some h
  obtain ⟨S29, z30, eS29, h⟩ := zb2_some h
  refine z_cI (As := [.ref v26, .ref v27]) X hl hH hS mlX7_30 (kX1_init (fun q h => hA q (Nat.le_trans (Nat.le_trans hS.1.1 (Nat.le_of_eq hS.2)) h)) eS29) rfl rfl (Nat.le_of_ble_eq_true rfl) ⟨rfl, rfl, Nat.le_of_ble_eq_true rfl, Nat.le_of_ble_eq_true rfl⟩ (zbud_at eu28) dX7_init_70 (fun H locs hH hS => ?_)
  obtain ⟨S31, eS31, h⟩ := zb_some h
  refine z_putF X hin flX7_37 rfl fpX7_4 rfl ⟨_, _, _, rfl, fqX7_37⟩ (fun _ => ⟨rfl, rfl⟩) hH hS eS31 dX7_init_73 (fun H locs hH hS => ?_)
  refine lv_aload_n hx hb dX7_init_76 rfl (lv_at hl 0 rfl) ?_
  obtain ⟨u32, eu32, h⟩ := zb_some h
  refine z_new X nlX7_40 hH hS (fun q h => hA q (Nat.le_trans (Nat.le_trans hS.1.1 (Nat.le_of_eq hS.2)) h)) eu32 dX7_init_77 (fun H hH hS => ?_)
  obtain ⟨S33, eS33⟩ : ∃ y : zS, y = zad S31 z30 0 0 := ⟨_, rfl⟩
  have h := zlet_at eS33 h
  rw [← eS33] at hH
  refine lv_dup hx hb dX7_init_80 rfl ?_
  obtain ⟨u34, eu34, h⟩ := zb_some h
  obtain ⟨S35, z36, eS35, h⟩ := zb2_some h
  refine z_cI (As := []) X hl hH hS mlX7_42 (kX0_init (fun q h => hA q (Nat.le_trans (Nat.le_trans hS.1.1 (Nat.le_of_eq hS.2)) h)) eS35) rfl rfl (Nat.le_of_ble_eq_true rfl) ⟨rfl, rfl, Nat.le_of_ble_eq_true rfl, Nat.le_of_ble_eq_true rfl⟩ (zbud_at eu34) dX7_init_81 (fun H locs hH hS => ?_)
  obtain ⟨S37, eS37, h⟩ := zb_some h
  refine z_putF X hin flX7_43 rfl fpX7_5 rfl ⟨_, _, _, rfl, fqX7_43⟩ (fun _ => ⟨rfl, rfl⟩) hH hS eS37 dX7_init_84 (fun H locs hH hS => ?_)
  refine lv_aload_n hx hb dX7_init_87 rfl (lv_at hl 0 rfl) ?_
  obtain ⟨u38, eu38, h⟩ := zb_some h
  refine z_new X nlX7_47 hH hS (fun q h => hA q (Nat.le_trans (Nat.le_trans hS.1.1 (Nat.le_of_eq hS.2)) h)) eu38 dX7_init_88 (fun H hH hS => ?_)
  obtain ⟨S39, eS39⟩ : ∃ y : zS, y = zad S37 z36 3 0 := ⟨_, rfl⟩
  have h := zlet_at eS39 h
  rw [← eS39] at hH
  refine lv_dup hx hb dX7_init_91 rfl ?_
  obtain ⟨u40, eu40, h⟩ := zb_some h
  obtain ⟨S41, z42, eS41, h⟩ := zb2_some h
  refine z_cI (As := []) X hl hH hS mlX7_49 (kX3_init (fun q h => hA q (Nat.le_trans (Nat.le_trans hS.1.1 (Nat.le_of_eq hS.2)) h)) eS41) rfl rfl (Nat.le_of_ble_eq_true rfl) ⟨rfl, rfl, Nat.le_of_ble_eq_true rfl, Nat.le_of_ble_eq_true rfl⟩ (zbud_at eu40) dX7_init_92 (fun H locs hH hS => ?_)
  obtain ⟨S43, eS43, h⟩ := zb_some h
  refine z_putF X hin flX7_50 rfl fpX7_6 rfl ⟨_, _, _, rfl, fqX7_50⟩ (fun _ => ⟨rfl, rfl⟩) hH hS eS43 dX7_init_95 (fun H locs hH hS => ?_)
  refine lv_aload_n hx hb dX7_init_98 rfl (lv_at hl 0 rfl) ?_
  obtain ⟨u44, eu44, h⟩ := zb_some h
  refine z_new X nlX7_54 hH hS (fun q h => hA q (Nat.le_trans (Nat.le_trans hS.1.1 (Nat.le_of_eq hS.2)) h)) eu44 dX7_init_99 (fun H hH hS => ?_)
  obtain ⟨S45, eS45⟩ : ∃ y : zS, y = zad S43 z42 2 0 := ⟨_, rfl⟩
  have h := zlet_at eS45 h
  rw [← eS45] at hH
  refine lv_dup hx hb dX7_init_102 rfl ?_
  obtain ⟨u46, eu46, h⟩ := zb_some h
  obtain ⟨S47, z48, eS47, h⟩ := zb2_some h
  refine z_cI (As := []) X hl hH hS mlX7_56 (kX2_init (fun q h => hA q (Nat.le_trans (Nat.le_trans hS.1.1 (Nat.le_of_eq hS.2)) h)) eS47) rfl rfl (Nat.le_of_ble_eq_true rfl) ⟨rfl, rfl, Nat.le_of_ble_eq_true rfl, Nat.le_of_ble_eq_true rfl⟩ (zbud_at eu46) dX7_init_103 (fun H locs hH hS => ?_)
  obtain ⟨S49, eS49, h⟩ := zb_some h
  refine z_putF X hin flX7_57 rfl fpX7_7 rfl ⟨_, _, _, rfl, fqX7_57⟩ (fun _ => ⟨rfl, rfl⟩) hH hS eS49 dX7_init_106 (fun H locs hH hS => ?_)
  exact z_vretA X hH hS h dX7_init_109
set_option maxRecDepth 100000 in
theorem kX7_init {N : Nat} {MC MS zT : Nat} {T : zS} {S : zS} {z : Nat} {x0 : Nat} (hA0 : ∀ q : Nat, z ≤ q → A q) (h : rX7_init N MC MS S z 0 0 x0 = some (T, zT)) : Met l yX7_init [.code yX7_init cX7_init 1 none] ({ frames := 3, cells := MC, slots := MS, locals := 65 } : Room) (zP D cy A S z [.ref x0]) (zQ D cy A T zT none) MC MS A := by
  refine z_metI (lv := [(0, .ref x0)]) (by decide) (Nat.le_of_ble_eq_true rfl) rfl rfl ?_
  intro p e s m below meth c X hin hz H locs ls hH hS hl
  exact wX7_init_0 X (fun q hq => hA0 q (by rw [← hz]; exact hq)) hin h _ _ _ hH hS (lv_sub hl [0] rfl)
set_option maxRecDepth 100000 in
set_option maxHeartbeats 4000000 in
theorem wX7_orders_0 {N : Nat} {MC MS zT : Nat} {r : Int64} {T : zS} (X : zX D cy p s m meth c cX7_orders 2 RX7 (some .long)) (hA : ∀ q : Nat, s.heap.size ≤ q → A q)  {S : zS} {z : Nat} {q : Nat} {w : Nat} {x0 : Nat} {x1 : Int32} (h : rX7_orders_0 N MC MS S z q w x0 x1 = some (r, T, zT)) : zWt D cy A p l e ({ frames := 4, cells := MC, slots := MS, locals := 96 } : Room) s m args below meth c z q w MC MS (zQ D cy A T zT (some (.long r))) S 2 0 [(0, .ref x0), (1, .int x1)] [] := by
  obtain ⟨hx, hb, hml, hown, hr, hlocks, hT⟩ := id X
  intro H locs ls hH hS hl
  unfold rX7_orders_0 at h
  refine lv_aload_n hx hb dX7_orders_0 rfl (lv_at hl 0 rfl) ?_
  refine lv_iload_n hx hb dX7_orders_1 rfl (lv_at hl 1 rfl) ?_
  obtain ⟨u1, eu1, h⟩ := zb_some h
  obtain ⟨u2, eu2, h⟩ := zb_some h
  obtain ⟨v4, S3, eS3, h⟩ := zb2_some h
  refine z_cV (As := [.int x1]) X hl hH hS mlX7_122 eu2 (kX7_isStep eS3) rfl rfl (Nat.le_of_ble_eq_true rfl) ⟨rfl, rfl, Nat.le_of_ble_eq_true rfl, Nat.le_of_ble_eq_true rfl⟩ (zbud_at eu1) dX7_orders_2 (fun H locs hH hS => ?_)
  refine lv_if_ne (tgt := 12) hx hb dX7_orders_5 (by decide) (fun c => ?_) (fun c => ?_)
  · have h := (if_neg c).symm.trans h
    refine lv_aload_n hx hb dX7_orders_12 rfl (lv_at hl 0 rfl) ?_
    obtain ⟨v5, ev5, h⟩ := zb_some h
    refine z_getr X flX7_19 hH ev5 dX7_orders_13 ?_
    obtain ⟨v6, ev6, h⟩ := zb_some h
    refine z_getr X flX7_153 hH ev6 dX7_orders_16 ?_
    refine lv_iload_n hx hb dX7_orders_19 rfl (lv_at hl 1 rfl) ?_
    obtain ⟨v7, ev7, h⟩ := zb_some h
    refine z_iald X hH ev7 dX7_orders_20 ?_
    obtain ⟨u8, eu8, h⟩ := zb_some h
    obtain ⟨v10, S9, eS9, h⟩ := zb2_some h
    refine z_cS (As := [.int v7]) X hl hH hS mlX7_107 (kJ6_bitCount_0f7a4 eS9) rfl rfl (Nat.le_of_ble_eq_true rfl) ⟨rfl, rfl, Nat.le_of_ble_eq_true rfl, Nat.le_of_ble_eq_true rfl⟩ (zbud_at eu8) dX7_orders_21 (fun H locs hH hS => ?_)
    refine lv_bipush (v := (16 : Int32)) hx hb dX7_orders_24 (by decide) ?_
    refine lv_icmp_le (tgt := 33) hx hb dX7_orders_26 (by decide) (fun c => ?_) (fun c => ?_)
    · have h := (if_pos c).symm.trans h
      refine lv_aload_n hx hb dX7_orders_33 rfl (lv_at hl 0 rfl) ?_
      obtain ⟨v11, ev11, h⟩ := zb_some h
      refine z_getr X flX7_50 hH ev11 dX7_orders_34 ?_
      refine lv_aload_n hx hb dX7_orders_37 rfl (lv_at hl 0 rfl) ?_
      obtain ⟨v12, ev12, h⟩ := zb_some h
      refine z_getr X flX7_19 hH ev12 dX7_orders_38 ?_
      refine lv_iload_n hx hb dX7_orders_41 rfl (lv_at hl 1 rfl) ?_
      obtain ⟨u13, eu13, h⟩ := zb_some h
      obtain ⟨u14, eu14, h⟩ := zb_some h
      obtain ⟨v17, S15, z16, eS15, h⟩ := zb3_some h
      refine z_cV (As := [.ref v12, .int x1]) X hl hH hS mlX7_166 eu14 (kX3_ordersOf (fun q h => hA q (Nat.le_trans (Nat.le_trans hS.1.1 (Nat.le_of_eq hS.2)) h)) eS15) rfl rfl (Nat.le_of_ble_eq_true rfl) ⟨rfl, rfl, Nat.le_of_ble_eq_true rfl, Nat.le_of_ble_eq_true rfl⟩ (zbud_at eu13) dX7_orders_42 (fun H locs hH hS => ?_)
      exact z_lretA X hH hS h dX7_orders_45
    · have h := (if_neg c).symm.trans h
      refine lv_ldc2 (v := (-4 : Int64)) hx hb hown (X.ts _ ctX7_164) dX7_orders_29 ?_
      exact z_lretA X hH hS h dX7_orders_32
  · have h := (if_pos c).symm.trans h
    refine lv_ldc2 (v := (-1 : Int64)) hx hb hown (X.ts _ ctX7_162) dX7_orders_8 ?_
    exact z_lretA X hH hS h dX7_orders_11
set_option maxRecDepth 100000 in
theorem kX7_orders {N : Nat} {MC MS zT : Nat} {r : Int64} {T : zS} {S : zS} {z : Nat} {x0 : Nat} {x1 : Int32} (hA0 : ∀ q : Nat, z ≤ q → A q) (h : rX7_orders N MC MS S z 0 0 x0 x1 = some (r, T, zT)) : Met l yX7_orders [.code yX7_orders cX7_orders 2 (some .long)] ({ frames := 4, cells := MC, slots := MS, locals := 96 } : Room) (zP D cy A S z [.ref x0, .int x1]) (zQ D cy A T zT (some (.long r))) MC MS A := by
  refine z_metA (lv := [(0, .ref x0), (1, .int x1)]) (by decide) (Nat.le_of_ble_eq_true rfl) rfl ?_
  intro p e s m below meth c X hz H locs ls hH hS hl
  exact wX7_orders_0 X (fun q hq => hA0 q (by rw [← hz]; exact hq)) h _ _ _ hH hS (lv_sub hl [0, 1] rfl)
set_option maxRecDepth 100000 in
set_option maxHeartbeats 4000000 in
theorem wX8_init_0 {N : Nat} {MC MS zT : Nat} {T : zS} (X : zX D cy p s m meth c cX8_init 1 RX8 none) (hA : ∀ q : Nat, s.heap.size ≤ q → A q) (hin : meth.name = "<init>")  {S : zS} {z : Nat} {q : Nat} {w : Nat} {x0 : Nat} (h : fX8_init_0 N MC MS S z q w x0 = some (T, zT)) : zWt D cy A p l e ({ frames := 1, cells := MC, slots := MS, locals := 12 } : Room) s m args below meth c z q w MC MS (zQ D cy A T zT none) S 1 0 [(0, .ref x0)] [] := by
  obtain ⟨hx, hb, hml, hown, hr, hlocks, hT⟩ := id X
  intro H locs ls hH hS hl
  unfold fX8_init_0 at h
  refine lv_aload_n hx hb dX8_init_0 rfl (lv_at hl 0 rfl) ?_
  refine z_objInit X hl oiX8_1 oi_1 oi_2 (Nat.le_of_ble_eq_true rfl) (Nat.le_of_ble_eq_true rfl) dX8_init_1 ?_
  refine lv_aload_n hx hb dX8_init_4 rfl (lv_at hl 0 rfl) ?_
  refine lv_bipush (v := (60 : Int32)) hx hb dX8_init_5 (by decide) ?_
  obtain ⟨k1, ek1, h⟩ := zb_some h
  obtain ⟨u2, eu2, h⟩ := zb_some h
  refine z_newa (t := 9) X (by decide) hH hS (fun q h => hA q (Nat.le_trans (Nat.le_trans hS.1.1 (Nat.le_of_eq hS.2)) h)) ek1 eu2 dX8_init_7 (fun H hH hS => ?_)
  obtain ⟨S3, eS3⟩ : ∃ y : zS, y = zad S z 9 k1 := ⟨_, rfl⟩
  have h := zlet_at eS3 h
  rw [← eS3] at hH
  obtain ⟨S4, eS4, h⟩ := zb_some h
  refine z_putF X hin flX8_7 rfl fpX8_1 rfl ⟨_, _, _, rfl, fqX8_7⟩ (fun _ => ⟨rfl, rfl⟩) hH hS eS4 dX8_init_9 (fun H locs hH hS => ?_)
  refine lv_aload_n hx hb dX8_init_12 rfl (lv_at hl 0 rfl) ?_
  refine lv_bipush (v := (20 : Int32)) hx hb dX8_init_13 (by decide) ?_
  obtain ⟨k5, ek5, h⟩ := zb_some h
  obtain ⟨u6, eu6, h⟩ := zb_some h
  refine z_newa (t := 9) X (by decide) hH hS (fun q h => hA q (Nat.le_trans (Nat.le_trans hS.1.1 (Nat.le_of_eq hS.2)) h)) ek5 eu6 dX8_init_15 (fun H hH hS => ?_)
  obtain ⟨S7, eS7⟩ : ∃ y : zS, y = zad S4 (z + 1) 9 k5 := ⟨_, rfl⟩
  have h := zlet_at eS7 h
  rw [← eS7] at hH
  obtain ⟨S8, eS8, h⟩ := zb_some h
  refine z_putF X hin flX8_13 rfl fpX8_4 rfl ⟨_, _, _, rfl, fqX8_13⟩ (fun _ => ⟨rfl, rfl⟩) hH hS eS8 dX8_init_17 (fun H locs hH hS => ?_)
  refine lv_aload_n hx hb dX8_init_20 rfl (lv_at hl 0 rfl) ?_
  refine lv_sipush (v := (1200 : Int32)) hx hb dX8_init_21 (by decide) ?_
  obtain ⟨k9, ek9, h⟩ := zb_some h
  obtain ⟨u10, eu10, h⟩ := zb_some h
  refine z_newa (t := 9) X (by decide) hH hS (fun q h => hA q (Nat.le_trans (Nat.le_trans hS.1.1 (Nat.le_of_eq hS.2)) h)) ek9 eu10 dX8_init_24 (fun H hH hS => ?_)
  obtain ⟨S11, eS11⟩ : ∃ y : zS, y = zad S8 ((z + 1) + 1) 9 k9 := ⟨_, rfl⟩
  have h := zlet_at eS11 h
  rw [← eS11] at hH
  obtain ⟨S12, eS12, h⟩ := zb_some h
  refine z_putF X hin flX8_16 rfl fpX8_5 rfl ⟨_, _, _, rfl, fqX8_16⟩ (fun _ => ⟨rfl, rfl⟩) hH hS eS12 dX8_init_26 (fun H locs hH hS => ?_)
  refine lv_aload_n hx hb dX8_init_29 rfl (lv_at hl 0 rfl) ?_
  refine lv_bipush (v := (20 : Int32)) hx hb dX8_init_30 (by decide) ?_
  obtain ⟨k13, ek13, h⟩ := zb_some h
  obtain ⟨u14, eu14, h⟩ := zb_some h
  refine z_newa (t := 11) X (by decide) hH hS (fun q h => hA q (Nat.le_trans (Nat.le_trans hS.1.1 (Nat.le_of_eq hS.2)) h)) ek13 eu14 dX8_init_32 (fun H hH hS => ?_)
  obtain ⟨S15, eS15⟩ : ∃ y : zS, y = zad S12 (((z + 1) + 1) + 1) 11 k13 := ⟨_, rfl⟩
  have h := zlet_at eS15 h
  rw [← eS15] at hH
  obtain ⟨S16, eS16, h⟩ := zb_some h
  refine z_putF X hin flX8_19 rfl fpX8_6 rfl ⟨_, _, _, rfl, fqX8_19⟩ (fun _ => ⟨rfl, rfl⟩) hH hS eS16 dX8_init_34 (fun H locs hH hS => ?_)
  refine lv_aload_n hx hb dX8_init_37 rfl (lv_at hl 0 rfl) ?_
  refine lv_bipush (v := (64 : Int32)) hx hb dX8_init_38 (by decide) ?_
  obtain ⟨k17, ek17, h⟩ := zb_some h
  obtain ⟨u18, eu18, h⟩ := zb_some h
  refine z_newa (t := 9) X (by decide) hH hS (fun q h => hA q (Nat.le_trans (Nat.le_trans hS.1.1 (Nat.le_of_eq hS.2)) h)) ek17 eu18 dX8_init_40 (fun H hH hS => ?_)
  obtain ⟨S19, eS19⟩ : ∃ y : zS, y = zad S16 ((((z + 1) + 1) + 1) + 1) 9 k17 := ⟨_, rfl⟩
  have h := zlet_at eS19 h
  rw [← eS19] at hH
  obtain ⟨S20, eS20, h⟩ := zb_some h
  refine z_putF X hin flX8_23 rfl fpX8_7 rfl ⟨_, _, _, rfl, fqX8_23⟩ (fun _ => ⟨rfl, rfl⟩) hH hS eS20 dX8_init_42 (fun H locs hH hS => ?_)
  refine lv_aload_n hx hb dX8_init_45 rfl (lv_at hl 0 rfl) ?_
  refine lv_bipush (v := (24 : Int32)) hx hb dX8_init_46 (by decide) ?_
  obtain ⟨k21, ek21, h⟩ := zb_some h
  obtain ⟨u22, eu22, h⟩ := zb_some h
  refine z_newa (t := 9) X (by decide) hH hS (fun q h => hA q (Nat.le_trans (Nat.le_trans hS.1.1 (Nat.le_of_eq hS.2)) h)) ek21 eu22 dX8_init_48 (fun H hH hS => ?_)
  obtain ⟨S23, eS23⟩ : ∃ y : zS, y = zad S20 (((((z + 1) + 1) + 1) + 1) + 1) 9 k21 := ⟨_, rfl⟩
  have h := zlet_at eS23 h
  rw [← eS23] at hH
  obtain ⟨S24, eS24, h⟩ := zb_some h
  refine z_putF X hin flX8_26 rfl fpX8_9 rfl ⟨_, _, _, rfl, fqX8_26⟩ (fun _ => ⟨rfl, rfl⟩) hH hS eS24 dX8_init_50 (fun H locs hH hS => ?_)
  refine lv_aload_n hx hb dX8_init_53 rfl (lv_at hl 0 rfl) ?_
  refine lv_bipush (v := (24 : Int32)) hx hb dX8_init_54 (by decide) ?_
  obtain ⟨k25, ek25, h⟩ := zb_some h
  obtain ⟨u26, eu26, h⟩ := zb_some h
  refine z_newa (t := 9) X (by decide) hH hS (fun q h => hA q (Nat.le_trans (Nat.le_trans hS.1.1 (Nat.le_of_eq hS.2)) h)) ek25 eu26 dX8_init_56 (fun H hH hS => ?_)
  obtain ⟨S27, eS27⟩ : ∃ y : zS, y = zad S24 ((((((z + 1) + 1) + 1) + 1) + 1) + 1) 9 k25 := ⟨_, rfl⟩
  have h := zlet_at eS27 h
  rw [← eS27] at hH
  obtain ⟨S28, eS28, h⟩ := zb_some h
  refine z_putF X hin flX8_29 rfl fpX8_10 rfl ⟨_, _, _, rfl, fqX8_29⟩ (fun _ => ⟨rfl, rfl⟩) hH hS eS28 dX8_init_58 (fun H locs hH hS => ?_)
  refine lv_aload_n hx hb dX8_init_61 rfl (lv_at hl 0 rfl) ?_
  refine lv_bipush (v := (24 : Int32)) hx hb dX8_init_62 (by decide) ?_
  obtain ⟨k29, ek29, h⟩ := zb_some h
  obtain ⟨u30, eu30, h⟩ := zb_some h
  refine z_newa (t := 9) X (by decide) hH hS (fun q h => hA q (Nat.le_trans (Nat.le_trans hS.1.1 (Nat.le_of_eq hS.2)) h)) ek29 eu30 dX8_init_64 (fun H hH hS => ?_)
  obtain ⟨S31, eS31⟩ : ∃ y : zS, y = zad S28 (((((((z + 1) + 1) + 1) + 1) + 1) + 1) + 1) 9 k29 := ⟨_, rfl⟩
  have h := zlet_at eS31 h
  rw [← eS31] at hH
  obtain ⟨S32, eS32, h⟩ := zb_some h
  refine z_putF X hin flX8_32 rfl fpX8_11 rfl ⟨_, _, _, rfl, fqX8_32⟩ (fun _ => ⟨rfl, rfl⟩) hH hS eS32 dX8_init_66 (fun H locs hH hS => ?_)
  refine lv_aload_n hx hb dX8_init_69 rfl (lv_at hl 0 rfl) ?_
  refine lv_bipush (v := (24 : Int32)) hx hb dX8_init_70 (by decide) ?_
  obtain ⟨k33, ek33, h⟩ := zb_some h
  obtain ⟨u34, eu34, h⟩ := zb_some h
  refine z_newa (t := 9) X (by decide) hH hS (fun q h => hA q (Nat.le_trans (Nat.le_trans hS.1.1 (Nat.le_of_eq hS.2)) h)) ek33 eu34 dX8_init_72 (fun H hH hS => ?_)
  obtain ⟨S35, eS35⟩ : ∃ y : zS, y = zad S32 ((((((((z + 1) + 1) + 1) + 1) + 1) + 1) + 1) + 1) 9 k33 := ⟨_, rfl⟩
  have h := zlet_at eS35 h
  rw [← eS35] at hH
  obtain ⟨S36, eS36, h⟩ := zb_some h
  refine z_putF X hin flX8_35 rfl fpX8_12 rfl ⟨_, _, _, rfl, fqX8_35⟩ (fun _ => ⟨rfl, rfl⟩) hH hS eS36 dX8_init_74 (fun H locs hH hS => ?_)
  refine lv_aload_n hx hb dX8_init_77 rfl (lv_at hl 0 rfl) ?_
  refine lv_bipush (v := (96 : Int32)) hx hb dX8_init_78 (by decide) ?_
  obtain ⟨k37, ek37, h⟩ := zb_some h
  obtain ⟨u38, eu38, h⟩ := zb_some h
  refine z_newa (t := 9) X (by decide) hH hS (fun q h => hA q (Nat.le_trans (Nat.le_trans hS.1.1 (Nat.le_of_eq hS.2)) h)) ek37 eu38 dX8_init_80 (fun H hH hS => ?_)
  obtain ⟨S39, eS39⟩ : ∃ y : zS, y = zad S36 (((((((((z + 1) + 1) + 1) + 1) + 1) + 1) + 1) + 1) + 1) 9 k37 := ⟨_, rfl⟩
  have h := zlet_at eS39 h
  rw [← eS39] at hH
  obtain ⟨S40, eS40, h⟩ := zb_some h
  refine z_putF X hin flX8_38 rfl fpX8_13 rfl ⟨_, _, _, rfl, fqX8_38⟩ (fun _ => ⟨rfl, rfl⟩) hH hS eS40 dX8_init_82 (fun H locs hH hS => ?_)
  refine lv_aload_n hx hb dX8_init_85 rfl (lv_at hl 0 rfl) ?_
  refine lv_bipush (v := (8 : Int32)) hx hb dX8_init_86 (by decide) ?_
  obtain ⟨k41, ek41, h⟩ := zb_some h
  obtain ⟨u42, eu42, h⟩ := zb_some h
  refine z_newa (t := 9) X (by decide) hH hS (fun q h => hA q (Nat.le_trans (Nat.le_trans hS.1.1 (Nat.le_of_eq hS.2)) h)) ek41 eu42 dX8_init_88 (fun H hH hS => ?_)
  obtain ⟨S43, eS43⟩ : ∃ y : zS, y = zad S40 ((((((((((z + 1) + 1) + 1) + 1) + 1) + 1) + 1) + 1) + 1) + 1) 9 k41 := ⟨_, rfl⟩
  have h := zlet_at eS43 h
  rw [← eS43] at hH
  obtain ⟨S44, eS44, h⟩ := zb_some h
  refine z_putF X hin flX8_41 rfl fpX8_14 rfl ⟨_, _, _, rfl, fqX8_41⟩ (fun _ => ⟨rfl, rfl⟩) hH hS eS44 dX8_init_90 (fun H locs hH hS => ?_)
  refine lv_aload_n hx hb dX8_init_93 rfl (lv_at hl 0 rfl) ?_
  refine lv_bipush (v := (48 : Int32)) hx hb dX8_init_94 (by decide) ?_
  obtain ⟨k45, ek45, h⟩ := zb_some h
  obtain ⟨u46, eu46, h⟩ := zb_some h
  refine z_newa (t := 9) X (by decide) hH hS (fun q h => hA q (Nat.le_trans (Nat.le_trans hS.1.1 (Nat.le_of_eq hS.2)) h)) ek45 eu46 dX8_init_96 (fun H hH hS => ?_)
  obtain ⟨S47, eS47⟩ : ∃ y : zS, y = zad S44 (((((((((((z + 1) + 1) + 1) + 1) + 1) + 1) + 1) + 1) + 1) + 1) + 1) 9 k45 := ⟨_, rfl⟩
  have h := zlet_at eS47 h
  rw [← eS47] at hH
  obtain ⟨S48, eS48, h⟩ := zb_some h
  refine z_putF X hin flX8_44 rfl fpX8_15 rfl ⟨_, _, _, rfl, fqX8_44⟩ (fun _ => ⟨rfl, rfl⟩) hH hS eS48 dX8_init_98 (fun H locs hH hS => ?_)
  refine lv_aload_n hx hb dX8_init_101 rfl (lv_at hl 0 rfl) ?_
  refine lv_sipush (v := (9600 : Int32)) hx hb dX8_init_102 (by decide) ?_
  obtain ⟨k49, ek49, h⟩ := zb_some h
  obtain ⟨u50, eu50, h⟩ := zb_some h
  refine z_newa (t := 9) X (by decide) hH hS (fun q h => hA q (Nat.le_trans (Nat.le_trans hS.1.1 (Nat.le_of_eq hS.2)) h)) ek49 eu50 dX8_init_105 (fun H hH hS => ?_)
  obtain ⟨S51, eS51⟩ : ∃ y : zS, y = zad S48 ((((((((((((z + 1) + 1) + 1) + 1) + 1) + 1) + 1) + 1) + 1) + 1) + 1) + 1) 9 k49 := ⟨_, rfl⟩
  have h := zlet_at eS51 h
  rw [← eS51] at hH
  obtain ⟨S52, eS52, h⟩ := zb_some h
  refine z_putF X hin flX8_47 rfl fpX8_16 rfl ⟨_, _, _, rfl, fqX8_47⟩ (fun _ => ⟨rfl, rfl⟩) hH hS eS52 dX8_init_107 (fun H locs hH hS => ?_)
  refine lv_aload_n hx hb dX8_init_110 rfl (lv_at hl 0 rfl) ?_
  refine lv_sipush (v := (800 : Int32)) hx hb dX8_init_111 (by decide) ?_
  obtain ⟨k53, ek53, h⟩ := zb_some h
  obtain ⟨u54, eu54, h⟩ := zb_some h
  refine z_newa (t := 9) X (by decide) hH hS (fun q h => hA q (Nat.le_trans (Nat.le_trans hS.1.1 (Nat.le_of_eq hS.2)) h)) ek53 eu54 dX8_init_114 (fun H hH hS => ?_)
  obtain ⟨S55, eS55⟩ : ∃ y : zS, y = zad S52 (((((((((((((z + 1) + 1) + 1) + 1) + 1) + 1) + 1) + 1) + 1) + 1) + 1) + 1) + 1) 9 k53 := ⟨_, rfl⟩
  have h := zlet_at eS55 h
  rw [← eS55] at hH
  obtain ⟨S56, eS56, h⟩ := zb_some h
  refine z_putF X hin flX8_50 rfl fpX8_17 rfl ⟨_, _, _, rfl, fqX8_50⟩ (fun _ => ⟨rfl, rfl⟩) hH hS eS56 dX8_init_116 (fun H locs hH hS => ?_)
  refine lv_aload_n hx hb dX8_init_119 rfl (lv_at hl 0 rfl) ?_
  refine lv_sipush (v := (256 : Int32)) hx hb dX8_init_120 (by decide) ?_
  obtain ⟨k57, ek57, h⟩ := zb_some h
  obtain ⟨u58, eu58, h⟩ := zb_some h
  refine z_newa (t := 9) X (by decide) hH hS (fun q h => hA q (Nat.le_trans (Nat.le_trans hS.1.1 (Nat.le_of_eq hS.2)) h)) ek57 eu58 dX8_init_123 (fun H hH hS => ?_)
  obtain ⟨S59, eS59⟩ : ∃ y : zS, y = zad S56 ((((((((((((((z + 1) + 1) + 1) + 1) + 1) + 1) + 1) + 1) + 1) + 1) + 1) + 1) + 1) + 1) 9 k57 := ⟨_, rfl⟩
  have h := zlet_at eS59 h
  rw [← eS59] at hH
  obtain ⟨S60, eS60, h⟩ := zb_some h
  refine z_putF X hin flX8_53 rfl fpX8_19 rfl ⟨_, _, _, rfl, fqX8_53⟩ (fun _ => ⟨rfl, rfl⟩) hH hS eS60 dX8_init_125 (fun H locs hH hS => ?_)
  refine lv_aload_n hx hb dX8_init_128 rfl (lv_at hl 0 rfl) ?_
  refine lv_bipush (v := (24 : Int32)) hx hb dX8_init_129 (by decide) ?_
  obtain ⟨k61, ek61, h⟩ := zb_some h
  obtain ⟨u62, eu62, h⟩ := zb_some h
  refine z_newa (t := 9) X (by decide) hH hS (fun q h => hA q (Nat.le_trans (Nat.le_trans hS.1.1 (Nat.le_of_eq hS.2)) h)) ek61 eu62 dX8_init_131 (fun H hH hS => ?_)
  obtain ⟨S63, eS63⟩ : ∃ y : zS, y = zad S60 (((((((((((((((z + 1) + 1) + 1) + 1) + 1) + 1) + 1) + 1) + 1) + 1) + 1) + 1) + 1) + 1) + 1) 9 k61 := ⟨_, rfl⟩
  have h := zlet_at eS63 h
  rw [← eS63] at hH
  obtain ⟨S64, eS64, h⟩ := zb_some h
  refine z_putF X hin flX8_56 rfl fpX8_20 rfl ⟨_, _, _, rfl, fqX8_56⟩ (fun _ => ⟨rfl, rfl⟩) hH hS eS64 dX8_init_133 (fun H locs hH hS => ?_)
  refine lv_aload_n hx hb dX8_init_136 rfl (lv_at hl 0 rfl) ?_
  refine lv_bipush (v := (20 : Int32)) hx hb dX8_init_137 (by decide) ?_
  obtain ⟨k65, ek65, h⟩ := zb_some h
  obtain ⟨u66, eu66, h⟩ := zb_some h
  refine z_newa (t := 9) X (by decide) hH hS (fun q h => hA q (Nat.le_trans (Nat.le_trans hS.1.1 (Nat.le_of_eq hS.2)) h)) ek65 eu66 dX8_init_139 (fun H hH hS => ?_)
  obtain ⟨S67, eS67⟩ : ∃ y : zS, y = zad S64 ((((((((((((((((z + 1) + 1) + 1) + 1) + 1) + 1) + 1) + 1) + 1) + 1) + 1) + 1) + 1) + 1) + 1) + 1) 9 k65 := ⟨_, rfl⟩
  have h := zlet_at eS67 h
  rw [← eS67] at hH
  obtain ⟨S68, eS68, h⟩ := zb_some h
  refine z_putF X hin flX8_59 rfl fpX8_21 rfl ⟨_, _, _, rfl, fqX8_59⟩ (fun _ => ⟨rfl, rfl⟩) hH hS eS68 dX8_init_141 (fun H locs hH hS => ?_)
  refine lv_aload_n hx hb dX8_init_144 rfl (lv_at hl 0 rfl) ?_
  refine lv_ldc (v := (65536 : Int32)) hx hb hown (X.ts _ ctX8_62) dX8_init_145 ?_
  obtain ⟨k69, ek69, h⟩ := zb_some h
  obtain ⟨u70, eu70, h⟩ := zb_some h
  refine z_newa (t := 10) X (by decide) hH hS (fun q h => hA q (Nat.le_trans (Nat.le_trans hS.1.1 (Nat.le_of_eq hS.2)) h)) ek69 eu70 dX8_init_147 (fun H hH hS => ?_)
  obtain ⟨S71, eS71⟩ : ∃ y : zS, y = zad S68 (((((((((((((((((z + 1) + 1) + 1) + 1) + 1) + 1) + 1) + 1) + 1) + 1) + 1) + 1) + 1) + 1) + 1) + 1) + 1) 10 k69 := ⟨_, rfl⟩
  have h := zlet_at eS71 h
  rw [← eS71] at hH
  obtain ⟨S72, eS72, h⟩ := zb_some h
  refine z_putF X hin flX8_63 rfl fpX8_22 rfl ⟨_, _, _, rfl, fqX8_63⟩ (fun _ => ⟨rfl, rfl⟩) hH hS eS72 dX8_init_149 (fun H locs hH hS => ?_)
  refine lv_aload_n hx hb dX8_init_152 rfl (lv_at hl 0 rfl) ?_
  refine lv_ldc (v := (40401 : Int32)) hx hb hown (X.ts _ ctX8_67) dX8_init_153 ?_
  obtain ⟨k73, ek73, h⟩ := zb_some h
  obtain ⟨u74, eu74, h⟩ := zb_some h
  refine z_newa (t := 9) X (by decide) hH hS (fun q h => hA q (Nat.le_trans (Nat.le_trans hS.1.1 (Nat.le_of_eq hS.2)) h)) ek73 eu74 dX8_init_155 (fun H hH hS => ?_)
  obtain ⟨S75, eS75⟩ : ∃ y : zS, y = zad S72 ((((((((((((((((((z + 1) + 1) + 1) + 1) + 1) + 1) + 1) + 1) + 1) + 1) + 1) + 1) + 1) + 1) + 1) + 1) + 1) + 1) 9 k73 := ⟨_, rfl⟩
  have h := zlet_at eS75 h
  rw [← eS75] at hH
  obtain ⟨S76, eS76, h⟩ := zb_some h
  refine z_putF X hin flX8_68 rfl fpX8_23 rfl ⟨_, _, _, rfl, fqX8_68⟩ (fun _ => ⟨rfl, rfl⟩) hH hS eS76 dX8_init_157 (fun H locs hH hS => ?_)
  refine lv_aload_n hx hb dX8_init_160 rfl (lv_at hl 0 rfl) ?_
  refine lv_sipush (v := (400 : Int32)) hx hb dX8_init_161 (by decide) ?_
  obtain ⟨k77, ek77, h⟩ := zb_some h
  obtain ⟨u78, eu78, h⟩ := zb_some h
  refine z_newa (t := 9) X (by decide) hH hS (fun q h => hA q (Nat.le_trans (Nat.le_trans hS.1.1 (Nat.le_of_eq hS.2)) h)) ek77 eu78 dX8_init_164 (fun H hH hS => ?_)
  obtain ⟨S79, eS79⟩ : ∃ y : zS, y = zad S76 (((((((((((((((((((z + 1) + 1) + 1) + 1) + 1) + 1) + 1) + 1) + 1) + 1) + 1) + 1) + 1) + 1) + 1) + 1) + 1) + 1) + 1) 9 k77 := ⟨_, rfl⟩
  have h := zlet_at eS79 h
  rw [← eS79] at hH
  obtain ⟨S80, eS80, h⟩ := zb_some h
  refine z_putF X hin flX8_71 rfl fpX8_25 rfl ⟨_, _, _, rfl, fqX8_71⟩ (fun _ => ⟨rfl, rfl⟩) hH hS eS80 dX8_init_166 (fun H locs hH hS => ?_)
  refine lv_aload_n hx hb dX8_init_169 rfl (lv_at hl 0 rfl) ?_
  refine lv_sipush (v := (400 : Int32)) hx hb dX8_init_170 (by decide) ?_
  obtain ⟨k81, ek81, h⟩ := zb_some h
  obtain ⟨u82, eu82, h⟩ := zb_some h
  refine z_newa (t := 9) X (by decide) hH hS (fun q h => hA q (Nat.le_trans (Nat.le_trans hS.1.1 (Nat.le_of_eq hS.2)) h)) ek81 eu82 dX8_init_173 (fun H hH hS => ?_)
  obtain ⟨S83, eS83⟩ : ∃ y : zS, y = zad S80 ((((((((((((((((((((z + 1) + 1) + 1) + 1) + 1) + 1) + 1) + 1) + 1) + 1) + 1) + 1) + 1) + 1) + 1) + 1) + 1) + 1) + 1) + 1) 9 k81 := ⟨_, rfl⟩
  have h := zlet_at eS83 h
  rw [← eS83] at hH
  obtain ⟨S84, eS84, h⟩ := zb_some h
  refine z_putF X hin flX8_74 rfl fpX8_26 rfl ⟨_, _, _, rfl, fqX8_74⟩ (fun _ => ⟨rfl, rfl⟩) hH hS eS84 dX8_init_175 (fun H locs hH hS => ?_)
  refine lv_aload_n hx hb dX8_init_178 rfl (lv_at hl 0 rfl) ?_
  refine lv_sipush (v := (400 : Int32)) hx hb dX8_init_179 (by decide) ?_
  obtain ⟨k85, ek85, h⟩ := zb_some h
  obtain ⟨u86, eu86, h⟩ := zb_some h
  refine z_newa (t := 9) X (by decide) hH hS (fun q h => hA q (Nat.le_trans (Nat.le_trans hS.1.1 (Nat.le_of_eq hS.2)) h)) ek85 eu86 dX8_init_182 (fun H hH hS => ?_)
  obtain ⟨S87, eS87⟩ : ∃ y : zS, y = zad S84 (((((((((((((((((((((z + 1) + 1) + 1) + 1) + 1) + 1) + 1) + 1) + 1) + 1) + 1) + 1) + 1) + 1) + 1) + 1) + 1) + 1) + 1) + 1) + 1) 9 k85 := ⟨_, rfl⟩
  have h := zlet_at eS87 h
  rw [← eS87] at hH
  obtain ⟨S88, eS88, h⟩ := zb_some h
  refine z_putF X hin flX8_77 rfl fpX8_27 rfl ⟨_, _, _, rfl, fqX8_77⟩ (fun _ => ⟨rfl, rfl⟩) hH hS eS88 dX8_init_184 (fun H locs hH hS => ?_)
  refine lv_aload_n hx hb dX8_init_187 rfl (lv_at hl 0 rfl) ?_
  refine lv_bipush (v := (30 : Int32)) hx hb dX8_init_188 (by decide) ?_
  obtain ⟨k89, ek89, h⟩ := zb_some h
  obtain ⟨u90, eu90, h⟩ := zb_some h
  refine z_newa (t := 9) X (by decide) hH hS (fun q h => hA q (Nat.le_trans (Nat.le_trans hS.1.1 (Nat.le_of_eq hS.2)) h)) ek89 eu90 dX8_init_190 (fun H hH hS => ?_)
  obtain ⟨S91, eS91⟩ : ∃ y : zS, y = zad S88 ((((((((((((((((((((((z + 1) + 1) + 1) + 1) + 1) + 1) + 1) + 1) + 1) + 1) + 1) + 1) + 1) + 1) + 1) + 1) + 1) + 1) + 1) + 1) + 1) + 1) 9 k89 := ⟨_, rfl⟩
  have h := zlet_at eS91 h
  rw [← eS91] at hH
  refine lv_dup hx hb dX8_init_192 rfl ?_
  refine lv_iconst (v := (0 : Int32)) hx hb dX8_init_193 (by decide) ?_
  refine lv_iconst (v := (-1 : Int32)) hx hb dX8_init_194 (by decide) ?_
  obtain ⟨S92, eS92, h⟩ := zb_some h
  refine z_iast X hH hS eS92 dX8_init_195 (fun H locs hH hS => ?_)
  refine lv_dup hx hb dX8_init_196 rfl ?_
  refine lv_iconst (v := (1 : Int32)) hx hb dX8_init_197 (by decide) ?_
  refine lv_iconst (v := (-1 : Int32)) hx hb dX8_init_198 (by decide) ?_
  obtain ⟨S93, eS93, h⟩ := zb_some h
  refine z_iast X hH hS eS93 dX8_init_199 (fun H locs hH hS => ?_)
  refine lv_dup hx hb dX8_init_200 rfl ?_
  refine lv_iconst (v := (2 : Int32)) hx hb dX8_init_201 (by decide) ?_
  refine lv_iconst (v := (-1 : Int32)) hx hb dX8_init_202 (by decide) ?_
  obtain ⟨S94, eS94, h⟩ := zb_some h
  refine z_iast X hH hS eS94 dX8_init_203 (fun H locs hH hS => ?_)
  refine lv_dup hx hb dX8_init_204 rfl ?_
  refine lv_iconst (v := (3 : Int32)) hx hb dX8_init_205 (by decide) ?_
  refine lv_iconst (v := (-1 : Int32)) hx hb dX8_init_206 (by decide) ?_
  obtain ⟨S95, eS95, h⟩ := zb_some h
  refine z_iast X hH hS eS95 dX8_init_207 (fun H locs hH hS => ?_)
  refine lv_dup hx hb dX8_init_208 rfl ?_
  refine lv_iconst (v := (4 : Int32)) hx hb dX8_init_209 (by decide) ?_
  refine lv_iconst (v := (-1 : Int32)) hx hb dX8_init_210 (by decide) ?_
  obtain ⟨S96, eS96, h⟩ := zb_some h
  refine z_iast X hH hS eS96 dX8_init_211 (fun H locs hH hS => ?_)
  refine lv_dup hx hb dX8_init_212 rfl ?_
  refine lv_iconst (v := (5 : Int32)) hx hb dX8_init_213 (by decide) ?_
  refine lv_iconst (v := (-1 : Int32)) hx hb dX8_init_214 (by decide) ?_
  obtain ⟨S97, eS97, h⟩ := zb_some h
  refine z_iast X hH hS eS97 dX8_init_215 (fun H locs hH hS => ?_)
  refine lv_dup hx hb dX8_init_216 rfl ?_
  refine lv_bipush (v := (6 : Int32)) hx hb dX8_init_217 (by decide) ?_
  refine lv_iconst (v := (-1 : Int32)) hx hb dX8_init_219 (by decide) ?_
  obtain ⟨S98, eS98, h⟩ := zb_some h
  refine z_iast X hH hS eS98 dX8_init_220 (fun H locs hH hS => ?_)
  refine lv_dup hx hb dX8_init_221 rfl ?_
  refine lv_bipush (v := (7 : Int32)) hx hb dX8_init_222 (by decide) ?_
  refine lv_iconst (v := (-1 : Int32)) hx hb dX8_init_224 (by decide) ?_
  obtain ⟨S99, eS99, h⟩ := zb_some h
  refine z_iast X hH hS eS99 dX8_init_225 (fun H locs hH hS => ?_)
  refine lv_dup hx hb dX8_init_226 rfl ?_
  refine lv_bipush (v := (8 : Int32)) hx hb dX8_init_227 (by decide) ?_
  refine lv_iconst (v := (-1 : Int32)) hx hb dX8_init_229 (by decide) ?_
  obtain ⟨S100, eS100, h⟩ := zb_some h
  refine z_iast X hH hS eS100 dX8_init_230 (fun H locs hH hS => ?_)
  refine lv_dup hx hb dX8_init_231 rfl ?_
  refine lv_bipush (v := (9 : Int32)) hx hb dX8_init_232 (by decide) ?_
  refine lv_iconst (v := (-1 : Int32)) hx hb dX8_init_234 (by decide) ?_
  obtain ⟨S101, eS101, h⟩ := zb_some h
  refine z_iast X hH hS eS101 dX8_init_235 (fun H locs hH hS => ?_)
  refine lv_dup hx hb dX8_init_236 rfl ?_
  refine lv_bipush (v := (10 : Int32)) hx hb dX8_init_237 (by decide) ?_
  refine lv_iconst (v := (-1 : Int32)) hx hb dX8_init_239 (by decide) ?_
  obtain ⟨S102, eS102, h⟩ := zb_some h
  refine z_iast X hH hS eS102 dX8_init_240 (fun H locs hH hS => ?_)
  refine lv_dup hx hb dX8_init_241 rfl ?_
  refine lv_bipush (v := (11 : Int32)) hx hb dX8_init_242 (by decide) ?_
  refine lv_iconst (v := (-1 : Int32)) hx hb dX8_init_244 (by decide) ?_
  obtain ⟨S103, eS103, h⟩ := zb_some h
  refine z_iast X hH hS eS103 dX8_init_245 (fun H locs hH hS => ?_)
  refine lv_dup hx hb dX8_init_246 rfl ?_
  refine lv_bipush (v := (12 : Int32)) hx hb dX8_init_247 (by decide) ?_
  refine lv_iconst (v := (-1 : Int32)) hx hb dX8_init_249 (by decide) ?_
  obtain ⟨S104, eS104, h⟩ := zb_some h
  refine z_iast X hH hS eS104 dX8_init_250 (fun H locs hH hS => ?_)
  refine lv_dup hx hb dX8_init_251 rfl ?_
  refine lv_bipush (v := (13 : Int32)) hx hb dX8_init_252 (by decide) ?_
  refine lv_iconst (v := (-1 : Int32)) hx hb dX8_init_254 (by decide) ?_
  obtain ⟨S105, eS105, h⟩ := zb_some h
  refine z_iast X hH hS eS105 dX8_init_255 (fun H locs hH hS => ?_)
  refine lv_dup hx hb dX8_init_256 rfl ?_
  refine lv_bipush (v := (14 : Int32)) hx hb dX8_init_257 (by decide) ?_
  refine lv_iconst (v := (-1 : Int32)) hx hb dX8_init_259 (by decide) ?_
  obtain ⟨S106, eS106, h⟩ := zb_some h
  refine z_iast X hH hS eS106 dX8_init_260 (fun H locs hH hS => ?_)
  refine lv_dup hx hb dX8_init_261 rfl ?_
  refine lv_bipush (v := (15 : Int32)) hx hb dX8_init_262 (by decide) ?_
  refine lv_iconst (v := (-1 : Int32)) hx hb dX8_init_264 (by decide) ?_
  obtain ⟨S107, eS107, h⟩ := zb_some h
  refine z_iast X hH hS eS107 dX8_init_265 (fun H locs hH hS => ?_)
  refine lv_dup hx hb dX8_init_266 rfl ?_
  refine lv_bipush (v := (16 : Int32)) hx hb dX8_init_267 (by decide) ?_
  refine lv_iconst (v := (-1 : Int32)) hx hb dX8_init_269 (by decide) ?_
  obtain ⟨S108, eS108, h⟩ := zb_some h
  refine z_iast X hH hS eS108 dX8_init_270 (fun H locs hH hS => ?_)
  refine lv_dup hx hb dX8_init_271 rfl ?_
  refine lv_bipush (v := (17 : Int32)) hx hb dX8_init_272 (by decide) ?_
  refine lv_iconst (v := (-1 : Int32)) hx hb dX8_init_274 (by decide) ?_
  obtain ⟨S109, eS109, h⟩ := zb_some h
  refine z_iast X hH hS eS109 dX8_init_275 (fun H locs hH hS => ?_)
  refine lv_dup hx hb dX8_init_276 rfl ?_
  refine lv_bipush (v := (18 : Int32)) hx hb dX8_init_277 (by decide) ?_
  refine lv_iconst (v := (-1 : Int32)) hx hb dX8_init_279 (by decide) ?_
  obtain ⟨S110, eS110, h⟩ := zb_some h
  refine z_iast X hH hS eS110 dX8_init_280 (fun H locs hH hS => ?_)
  refine lv_dup hx hb dX8_init_281 rfl ?_
  refine lv_bipush (v := (19 : Int32)) hx hb dX8_init_282 (by decide) ?_
  refine lv_iconst (v := (-1 : Int32)) hx hb dX8_init_284 (by decide) ?_
  obtain ⟨S111, eS111, h⟩ := zb_some h
  refine z_iast X hH hS eS111 dX8_init_285 (fun H locs hH hS => ?_)
  refine lv_dup hx hb dX8_init_286 rfl ?_
  refine lv_bipush (v := (20 : Int32)) hx hb dX8_init_287 (by decide) ?_
  refine lv_iconst (v := (-1 : Int32)) hx hb dX8_init_289 (by decide) ?_
  obtain ⟨S112, eS112, h⟩ := zb_some h
  refine z_iast X hH hS eS112 dX8_init_290 (fun H locs hH hS => ?_)
  refine lv_dup hx hb dX8_init_291 rfl ?_
  refine lv_bipush (v := (21 : Int32)) hx hb dX8_init_292 (by decide) ?_
  refine lv_iconst (v := (-1 : Int32)) hx hb dX8_init_294 (by decide) ?_
  obtain ⟨S113, eS113, h⟩ := zb_some h
  refine z_iast X hH hS eS113 dX8_init_295 (fun H locs hH hS => ?_)
  refine lv_dup hx hb dX8_init_296 rfl ?_
  refine lv_bipush (v := (22 : Int32)) hx hb dX8_init_297 (by decide) ?_
  refine lv_iconst (v := (-1 : Int32)) hx hb dX8_init_299 (by decide) ?_
  obtain ⟨S114, eS114, h⟩ := zb_some h
  refine z_iast X hH hS eS114 dX8_init_300 (fun H locs hH hS => ?_)
  refine lv_dup hx hb dX8_init_301 rfl ?_
  refine lv_bipush (v := (23 : Int32)) hx hb dX8_init_302 (by decide) ?_
  refine lv_iconst (v := (-1 : Int32)) hx hb dX8_init_304 (by decide) ?_
  obtain ⟨S115, eS115, h⟩ := zb_some h
  refine z_iast X hH hS eS115 dX8_init_305 (fun H locs hH hS => ?_)
  refine lv_dup hx hb dX8_init_306 rfl ?_
  refine lv_bipush (v := (24 : Int32)) hx hb dX8_init_307 (by decide) ?_
  refine lv_iconst (v := (-1 : Int32)) hx hb dX8_init_309 (by decide) ?_
  obtain ⟨S116, eS116, h⟩ := zb_some h
  refine z_iast X hH hS eS116 dX8_init_310 (fun H locs hH hS => ?_)
  refine lv_dup hx hb dX8_init_311 rfl ?_
  refine lv_bipush (v := (25 : Int32)) hx hb dX8_init_312 (by decide) ?_
  refine lv_iconst (v := (-1 : Int32)) hx hb dX8_init_314 (by decide) ?_
  obtain ⟨S117, eS117, h⟩ := zb_some h
  refine z_iast X hH hS eS117 dX8_init_315 (fun H locs hH hS => ?_)
  refine lv_dup hx hb dX8_init_316 rfl ?_
  refine lv_bipush (v := (26 : Int32)) hx hb dX8_init_317 (by decide) ?_
  refine lv_iconst (v := (-1 : Int32)) hx hb dX8_init_319 (by decide) ?_
  obtain ⟨S118, eS118, h⟩ := zb_some h
  refine z_iast X hH hS eS118 dX8_init_320 (fun H locs hH hS => ?_)
  refine lv_dup hx hb dX8_init_321 rfl ?_
  refine lv_bipush (v := (27 : Int32)) hx hb dX8_init_322 (by decide) ?_
  refine lv_iconst (v := (-1 : Int32)) hx hb dX8_init_324 (by decide) ?_
  obtain ⟨S119, eS119, h⟩ := zb_some h
  refine z_iast X hH hS eS119 dX8_init_325 (fun H locs hH hS => ?_)
  refine lv_dup hx hb dX8_init_326 rfl ?_
  refine lv_bipush (v := (28 : Int32)) hx hb dX8_init_327 (by decide) ?_
  refine lv_iconst (v := (-1 : Int32)) hx hb dX8_init_329 (by decide) ?_
  obtain ⟨S120, eS120, h⟩ := zb_some h
  refine z_iast X hH hS eS120 dX8_init_330 (fun H locs hH hS => ?_)
  refine lv_dup hx hb dX8_init_331 rfl ?_
  refine lv_bipush (v := (29 : Int32)) hx hb dX8_init_332 (by decide) ?_
  refine lv_iconst (v := (-1 : Int32)) hx hb dX8_init_334 (by decide) ?_
  obtain ⟨S121, eS121, h⟩ := zb_some h
  refine z_iast X hH hS eS121 dX8_init_335 (fun H locs hH hS => ?_)
  obtain ⟨S122, eS122, h⟩ := zb_some h
  refine z_putF X hin flX8_80 rfl fpX8_28 rfl ⟨_, _, _, rfl, fqX8_80⟩ (fun _ => ⟨rfl, rfl⟩) hH hS eS122 dX8_init_336 (fun H locs hH hS => ?_)
  refine lv_aload_n hx hb dX8_init_339 rfl (lv_at hl 0 rfl) ?_
  refine lv_bipush (v := (30 : Int32)) hx hb dX8_init_340 (by decide) ?_
  obtain ⟨k123, ek123, h⟩ := zb_some h
  obtain ⟨u124, eu124, h⟩ := zb_some h
  refine z_newa (t := 9) X (by decide) hH hS (fun q h => hA q (Nat.le_trans (Nat.le_trans hS.1.1 (Nat.le_of_eq hS.2)) h)) ek123 eu124 dX8_init_342 (fun H hH hS => ?_)
  obtain ⟨S125, eS125⟩ : ∃ y : zS, y = zad S122 (((((((((((((((((((((((z + 1) + 1) + 1) + 1) + 1) + 1) + 1) + 1) + 1) + 1) + 1) + 1) + 1) + 1) + 1) + 1) + 1) + 1) + 1) + 1) + 1) + 1) + 1) 9 k123 := ⟨_, rfl⟩
  have h := zlet_at eS125 h
  rw [← eS125] at hH
  obtain ⟨S126, eS126, h⟩ := zb_some h
  refine z_putF X hin flX8_83 rfl fpX8_29 rfl ⟨_, _, _, rfl, fqX8_83⟩ (fun _ => ⟨rfl, rfl⟩) hH hS eS126 dX8_init_344 (fun H locs hH hS => ?_)
  refine lv_aload_n hx hb dX8_init_347 rfl (lv_at hl 0 rfl) ?_
  refine lv_bipush (v := (30 : Int32)) hx hb dX8_init_348 (by decide) ?_
  obtain ⟨k127, ek127, h⟩ := zb_some h
  obtain ⟨u128, eu128, h⟩ := zb_some h
  refine z_newa (t := 11) X (by decide) hH hS (fun q h => hA q (Nat.le_trans (Nat.le_trans hS.1.1 (Nat.le_of_eq hS.2)) h)) ek127 eu128 dX8_init_350 (fun H hH hS => ?_)
  obtain ⟨S129, eS129⟩ : ∃ y : zS, y = zad S126 ((((((((((((((((((((((((z + 1) + 1) + 1) + 1) + 1) + 1) + 1) + 1) + 1) + 1) + 1) + 1) + 1) + 1) + 1) + 1) + 1) + 1) + 1) + 1) + 1) + 1) + 1) + 1) 11 k127 := ⟨_, rfl⟩
  have h := zlet_at eS129 h
  rw [← eS129] at hH
  obtain ⟨S130, eS130, h⟩ := zb_some h
  refine z_putF X hin flX8_86 rfl fpX8_30 rfl ⟨_, _, _, rfl, fqX8_86⟩ (fun _ => ⟨rfl, rfl⟩) hH hS eS130 dX8_init_352 (fun H locs hH hS => ?_)
  refine lv_aload_n hx hb dX8_init_355 rfl (lv_at hl 0 rfl) ?_
  refine lv_bipush (v := (30 : Int32)) hx hb dX8_init_356 (by decide) ?_
  obtain ⟨k131, ek131, h⟩ := zb_some h
  obtain ⟨u132, eu132, h⟩ := zb_some h
  refine z_newa (t := 11) X (by decide) hH hS (fun q h => hA q (Nat.le_trans (Nat.le_trans hS.1.1 (Nat.le_of_eq hS.2)) h)) ek131 eu132 dX8_init_358 (fun H hH hS => ?_)
  obtain ⟨S133, eS133⟩ : ∃ y : zS, y = zad S130 (((((((((((((((((((((((((z + 1) + 1) + 1) + 1) + 1) + 1) + 1) + 1) + 1) + 1) + 1) + 1) + 1) + 1) + 1) + 1) + 1) + 1) + 1) + 1) + 1) + 1) + 1) + 1) + 1) 11 k131 := ⟨_, rfl⟩
  have h := zlet_at eS133 h
  rw [← eS133] at hH
  obtain ⟨S134, eS134, h⟩ := zb_some h
  refine z_putF X hin flX8_89 rfl fpX8_31 rfl ⟨_, _, _, rfl, fqX8_89⟩ (fun _ => ⟨rfl, rfl⟩) hH hS eS134 dX8_init_360 (fun H locs hH hS => ?_)
  refine lv_aload_n hx hb dX8_init_363 rfl (lv_at hl 0 rfl) ?_
  refine lv_bipush (v := (20 : Int32)) hx hb dX8_init_364 (by decide) ?_
  obtain ⟨k135, ek135, h⟩ := zb_some h
  obtain ⟨u136, eu136, h⟩ := zb_some h
  refine z_newa (t := 11) X (by decide) hH hS (fun q h => hA q (Nat.le_trans (Nat.le_trans hS.1.1 (Nat.le_of_eq hS.2)) h)) ek135 eu136 dX8_init_366 (fun H hH hS => ?_)
  obtain ⟨S137, eS137⟩ : ∃ y : zS, y = zad S134 ((((((((((((((((((((((((((z + 1) + 1) + 1) + 1) + 1) + 1) + 1) + 1) + 1) + 1) + 1) + 1) + 1) + 1) + 1) + 1) + 1) + 1) + 1) + 1) + 1) + 1) + 1) + 1) + 1) + 1) 11 k135 := ⟨_, rfl⟩
  have h := zlet_at eS137 h
  rw [← eS137] at hH
  obtain ⟨S138, eS138, h⟩ := zb_some h
  refine z_putF X hin flX8_92 rfl fpX8_32 rfl ⟨_, _, _, rfl, fqX8_92⟩ (fun _ => ⟨rfl, rfl⟩) hH hS eS138 dX8_init_368 (fun H locs hH hS => ?_)
  exact z_vretA X hH hS h dX8_init_371
set_option maxRecDepth 100000 in
theorem kX8_init {N : Nat} {MC MS zT : Nat} {T : zS} {S : zS} {z : Nat} {x0 : Nat} (hA0 : ∀ q : Nat, z ≤ q → A q) (h : fX8_init N MC MS S z 0 0 x0 = some (T, zT)) : Met l yX8_init [.code yX8_init cX8_init 1 none] ({ frames := 1, cells := MC, slots := MS, locals := 12 } : Room) (zP D cy A S z [.ref x0]) (zQ D cy A T zT none) MC MS A := by
  refine z_metI (lv := [(0, .ref x0)]) (by decide) (Nat.le_of_ble_eq_true rfl) rfl rfl ?_
  intro p e s m below meth c X hin hz H locs ls hH hS hl
  exact wX8_init_0 X (fun q hq => hA0 q (by rw [← hz]; exact hq)) hin h _ _ _ hH hS (lv_sub hl [0] rfl)
end
