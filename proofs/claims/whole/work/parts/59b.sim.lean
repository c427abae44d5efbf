section
variable {rows : List Nat} {lm u : Nat}
set_option maxRecDepth 100000 in
set_option maxHeartbeats 4000000 in
theorem sX2_ringStart_0 {N : Nat} {z : Nat} {r : Int32} {T : zS}  {S : zS} {Sr : zS} {x0 : Nat} {x1 : Int32} (hR : zR rows lm u z S Sr) (nx0 : zn rows x0) (h : fX2_ringStart_0 N S x0 x1 = some (r, T)) : zw (rX2_ringStart_0 N Sr x0 x1) (sQ rows lm u z r T) := by
  unfold fX2_ringStart_0 at h
  unfold rX2_ringStart_0
  obtain ⟨u1, eu1, h⟩ := zb_some h
  refine zw.e (hR.rc eu1) ?_
  obtain ⟨v3, S2, eS2, h⟩ := zb2_some h
  refine sc2 (sX2_way hR nx0 eS2) (fun S2r hR => ?_)
  obtain ⟨v5, S4, eS4, h⟩ := zb2_some h
  refine sc2 (sJ6_bitCount_0f7a4 hR eS4) (fun S4r hR => ?_)
  obtain ⟨u6, eu6, h⟩ := zb_some h
  refine zw.e (hR.rc eu6) ?_
  obtain ⟨v8, S7, eS7, h⟩ := zb2_some h
  refine sc2 (sX2_after hR nx0 eS7) (fun S7r hR => ?_)
  cases h
  exact zw.s ⟨rfl, hR⟩
theorem sX2_ringStart {N : Nat} {z : Nat} {r : Int32} {T : zS} {S : zS} {Sr : zS} {x0 : Nat} {x1 : Int32} (hR : zR rows lm u z S Sr) (nx0 : zn rows x0) (h : fX2_ringStart N S x0 x1 = some (r, T)) : zw (rX2_ringStart N Sr x0 x1) (sQ rows lm u z r T) := sX2_ringStart_0 hR nx0 h
set_option maxRecDepth 100000 in
set_option maxHeartbeats 4000000 in
theorem sX2_textsOn_39 {N : Nat} {z : Nat} {r : Int32} {T : zS} {Kv4 : zS × Nat × Int32 × Int32 × Int32 → Option (Int32 × zS)} {K4 : zS × Nat × Int32 × Int32 × Int32 → Option (Int32 × zS)} (hK4 : ∀ (S : zS) (Sr : zS) (x0 : Nat) (x1 : Int32) (x2 : Int32) (x3 : Int32), zR rows lm u z S Sr → zn rows x0 → Kv4 (S, x0, x1, x2, x3) = some (r, T) → zw (K4 (Sr, x0, x1, x2, x3)) (sQ rows lm u z r T)) {S : zS} {Sr : zS} {x0 : Nat} {x1 : Int32} {x2 : Int32} {x3 : Int32} (hR : zR rows lm u z S Sr) (nx0 : zn rows x0) (h : fX2_textsOn_39 N Kv4 S x0 x1 x2 x3 = some (r, T)) : zw (rX2_textsOn_39 N K4 Sr x0 x1 x2 x3) (sQ rows lm u z r T) := by
  unfold fX2_textsOn_39 at h
  unfold rX2_textsOn_39
  exact hK4 _ _ _ _ _ _ hR nx0 h
set_option maxRecDepth 100000 in
set_option maxHeartbeats 4000000 in
theorem sX2_textsOn_4 {N : Nat} {z : Nat} {r : Int32} {T : zS} {Kv4 : zS × Nat × Int32 × Int32 × Int32 → Option (Int32 × zS)} {K4 : zS × Nat × Int32 × Int32 × Int32 → Option (Int32 × zS)} (hK4 : ∀ (S : zS) (Sr : zS) (x0 : Nat) (x1 : Int32) (x2 : Int32) (x3 : Int32), zR rows lm u z S Sr → zn rows x0 → Kv4 (S, x0, x1, x2, x3) = some (r, T) → zw (K4 (Sr, x0, x1, x2, x3)) (sQ rows lm u z r T)) {S : zS} {Sr : zS} {x0 : Nat} {x1 : Int32} {x2 : Int32} {x3 : Int32} (hR : zR rows lm u z S Sr) (nx0 : zn rows x0) (h : fX2_textsOn_4 N Kv4 S x0 x1 x2 x3 = some (r, T)) : zw (rX2_textsOn_4 N K4 Sr x0 x1 x2 x3) (sQ rows lm u z r T) := by
  unfold fX2_textsOn_4 at h
  unfold rX2_textsOn_4
  by_cases c : (30 : Int32) ≤ x3
  · have h := (if_pos c).symm.trans h
    refine zw.t c ?_
    cases h
    exact zw.s ⟨rfl, hR⟩
  · have h := (if_neg c).symm.trans h
    refine zw.f c ?_
    by_cases c : ((zush x1 x3) &&& (1 : Int32)) = (0 : Int32)
    · have h := (if_pos c).symm.trans h
      refine zw.t c ?_
      exact sX2_textsOn_39 hK4  hR nx0 h
    · have h := (if_neg c).symm.trans h
      refine zw.f c ?_
      obtain ⟨v1, ev1, h⟩ := zb_some h
      have nv1 := hR.gn (by decide) ev1
      refine zw.e (hR.gr (by decide) ev1) ?_
      obtain ⟨v2, ev2, h⟩ := zb_some h
      refine zw.e (hR.il nv1 ev2) ?_
      by_cases c : v2 = (-1 : Int32)
      · have h := (if_pos c).symm.trans h
        refine zw.t c ?_
        exact sX2_textsOn_39 hK4  hR nx0 h
      · have h := (if_neg c).symm.trans h
        refine zw.f c ?_
        obtain ⟨v3, ev3, h⟩ := zb_some h
        have nv3 := hR.gn (by decide) ev3
        refine zw.e (hR.gr (by decide) ev3) ?_
        obtain ⟨v4, ev4, h⟩ := zb_some h
        refine zw.e (hR.il nv3 ev4) ?_
        obtain ⟨v5, ev5⟩ : ∃ y : Int32, y = (x2 ||| ((1 : Int32) <<< (v4 &&& 31))) := ⟨_, rfl⟩
        have h := zlet_at ev5 h
        refine zw_let ev5 ?_
        exact sX2_textsOn_39 hK4  hR nx0 h
set_option maxRecDepth 100000 in
set_option maxHeartbeats 4000000 in
theorem tX2_textsOn_4 {N : Nat} {z : Nat} {r : Int32} {T : zS}  {S : zS} {Sr : zS} {x0 : Nat} {x1 : Int32} {x2 : Int32} {x3 : Int32} (hR : zR rows lm u z S Sr) (nx0 : zn rows x0) (h : lX2_textsOn_4 N S x0 x1 x2 x3 = some (r, T)) : zw (rlX2_textsOn_4 N Sr x0 x1 x2 x3) (sQ rows lm u z r T) := by
  unfold lX2_textsOn_4 at h
  unfold rlX2_textsOn_4
  refine zl_sim (I := fun y y' => ∃ (S : zS) (Sr : zS) (x0 : Nat) (x1 : Int32) (x2 : Int32) (x3 : Int32), y = (S, x0, x1, x2, x3) ∧ y' = (Sr, x0, x1, x2, x3) ∧ zR rows lm u z S Sr ∧ zn rows x0) (Q := fun y' => (sQ rows lm u z r T)) ?_ N _ _ ⟨S, Sr, x0, x1, x2, x3, rfl, rfl, hR, nx0⟩ h
  rintro K K' hK y y' ⟨S, Sr, x0, x1, x2, x3, rfl, rfl, hR, nx0⟩ h
  exact sX2_textsOn_4 (fun S Sr x0 x1 x2 x3 hR nx0 h => hK _ _ ⟨S, Sr, x0, x1, x2, x3, rfl, rfl, hR, nx0⟩ h) hR nx0 h
set_option maxRecDepth 100000 in
set_option maxHeartbeats 4000000 in
theorem sX2_textsOn_0 {N : Nat} {z : Nat} {r : Int32} {T : zS}  {S : zS} {Sr : zS} {x0 : Nat} {x1 : Int32} (hR : zR rows lm u z S Sr) (nx0 : zn rows x0) (h : fX2_textsOn_0 N S x0 x1 = some (r, T)) : zw (rX2_textsOn_0 N Sr x0 x1) (sQ rows lm u z r T) := by
  unfold fX2_textsOn_0 at h
  unfold rX2_textsOn_0
  exact tX2_textsOn_4  hR nx0 h
theorem sX2_textsOn {N : Nat} {z : Nat} {r : Int32} {T : zS} {S : zS} {Sr : zS} {x0 : Nat} {x1 : Int32} (hR : zR rows lm u z S Sr) (nx0 : zn rows x0) (h : fX2_textsOn N S x0 x1 = some (r, T)) : zw (rX2_textsOn N Sr x0 x1) (sQ rows lm u z r T) := sX2_textsOn_0 hR nx0 h
set_option maxRecDepth 100000 in
set_option maxHeartbeats 4000000 in
theorem sX2_seeds_26 {N : Nat} {z : Nat} {r : Int32} {T : zS} {Kv4 : zS × Nat × Int32 × Int32 → Option (Int32 × zS)} {K4 : zS × Nat × Int32 × Int32 → Option (Int32 × zS)} (hK4 : ∀ (S : zS) (Sr : zS) (x0 : Nat) (x1 : Int32) (x2 : Int32), zR rows lm u z S Sr → zn rows x0 → Kv4 (S, x0, x1, x2) = some (r, T) → zw (K4 (Sr, x0, x1, x2)) (sQ rows lm u z r T)) {S : zS} {Sr : zS} {x0 : Nat} {x2 : Int32} {y0 : Int32} {y1 : Int32} (hR : zR rows lm u z S Sr) (nx0 : zn rows x0) (h : fX2_seeds_26 N Kv4 S x0 x2 y0 y1 = some (r, T)) : zw (rX2_seeds_26 N K4 Sr x0 x2 y0 y1) (sQ rows lm u z r T) := by
  unfold fX2_seeds_26 at h
  unfold rX2_seeds_26
  exact hK4 _ _ _ _ _ hR nx0 h
set_option maxRecDepth 100000 in
set_option maxHeartbeats 4000000 in
theorem sX2_seeds_4 {N : Nat} {z : Nat} {r : Int32} {T : zS} {Kv4 : zS × Nat × Int32 × Int32 → Option (Int32 × zS)} {K4 : zS × Nat × Int32 × Int32 → Option (Int32 × zS)} (hK4 : ∀ (S : zS) (Sr : zS) (x0 : Nat) (x1 : Int32) (x2 : Int32), zR rows lm u z S Sr → zn rows x0 → Kv4 (S, x0, x1, x2) = some (r, T) → zw (K4 (Sr, x0, x1, x2)) (sQ rows lm u z r T)) {S : zS} {Sr : zS} {x0 : Nat} {x1 : Int32} {x2 : Int32} (hR : zR rows lm u z S Sr) (nx0 : zn rows x0) (h : fX2_seeds_4 N Kv4 S x0 x1 x2 = some (r, T)) : zw (rX2_seeds_4 N K4 Sr x0 x1 x2) (sQ rows lm u z r T) := by
  unfold fX2_seeds_4 at h
  unfold rX2_seeds_4
  by_cases c : (30 : Int32) ≤ x2
  · have h := (if_pos c).symm.trans h
    refine zw.t c ?_
    cases h
    exact zw.s ⟨rfl, hR⟩
  · have h := (if_neg c).symm.trans h
    refine zw.f c ?_
    obtain ⟨v1, ev1, h⟩ := zb_some h
    have nv1 := hR.gn (by decide) ev1
    refine zw.e (hR.gr (by decide) ev1) ?_
    obtain ⟨v2, ev2, h⟩ := zb_some h
    refine zw.e (hR.il nv1 ev2) ?_
    by_cases c : v2 = (-1 : Int32)
    · have h := (if_pos c).symm.trans h
      refine zw.t c ?_
      exact sX2_seeds_26 hK4  hR nx0 h
    · have h := (if_neg c).symm.trans h
      refine zw.f c ?_
      exact sX2_seeds_26 hK4  hR nx0 h
set_option maxRecDepth 100000 in
set_option maxHeartbeats 4000000 in
theorem tX2_seeds_4 {N : Nat} {z : Nat} {r : Int32} {T : zS}  {S : zS} {Sr : zS} {x0 : Nat} {x1 : Int32} {x2 : Int32} (hR : zR rows lm u z S Sr) (nx0 : zn rows x0) (h : lX2_seeds_4 N S x0 x1 x2 = some (r, T)) : zw (rlX2_seeds_4 N Sr x0 x1 x2) (sQ rows lm u z r T) := by
  unfold lX2_seeds_4 at h
  unfold rlX2_seeds_4
  refine zl_sim (I := fun y y' => ∃ (S : zS) (Sr : zS) (x0 : Nat) (x1 : Int32) (x2 : Int32), y = (S, x0, x1, x2) ∧ y' = (Sr, x0, x1, x2) ∧ zR rows lm u z S Sr ∧ zn rows x0) (Q := fun y' => (sQ rows lm u z r T)) ?_ N _ _ ⟨S, Sr, x0, x1, x2, rfl, rfl, hR, nx0⟩ h
  rintro K K' hK y y' ⟨S, Sr, x0, x1, x2, rfl, rfl, hR, nx0⟩ h
  exact sX2_seeds_4 (fun S Sr x0 x1 x2 hR nx0 h => hK _ _ ⟨S, Sr, x0, x1, x2, rfl, rfl, hR, nx0⟩ h) hR nx0 h
set_option maxRecDepth 100000 in
set_option maxHeartbeats 4000000 in
theorem sX2_seeds_0 {N : Nat} {z : Nat} {r : Int32} {T : zS}  {S : zS} {Sr : zS} {x0 : Nat} (hR : zR rows lm u z S Sr) (nx0 : zn rows x0) (h : fX2_seeds_0 N S x0 = some (r, T)) : zw (rX2_seeds_0 N Sr x0) (sQ rows lm u z r T) := by
  unfold fX2_seeds_0 at h
  unfold rX2_seeds_0
  exact tX2_seeds_4  hR nx0 h
theorem sX2_seeds {N : Nat} {z : Nat} {r : Int32} {T : zS} {S : zS} {Sr : zS} {x0 : Nat} (hR : zR rows lm u z S Sr) (nx0 : zn rows x0) (h : fX2_seeds N S x0 = some (r, T)) : zw (rX2_seeds N Sr x0) (sQ rows lm u z r T) := sX2_seeds_0 hR nx0 h
set_option maxRecDepth 100000 in
set_option maxHeartbeats 4000000 in
theorem sJ7_fill_d0a16_6 {N : Nat} {z : Nat} {T : zS} {Kv6 : zS × Nat × Int64 × Int32 × Int32 → Option (zS)} {K6 : zS × Nat × Int64 × Int32 × Int32 → Option (zS)} (hK6 : ∀ (S : zS) (Sr : zS) (x0 : Nat) (x1 : Int64) (x3 : Int32) (x4 : Int32), zR rows lm u z S Sr → zn rows x0 → Kv6 (S, x0, x1, x3, x4) = some T → zw (K6 (Sr, x0, x1, x3, x4)) (sV rows lm u z T)) {S : zS} {Sr : zS} {x0 : Nat} {x1 : Int64} {x3 : Int32} {x4 : Int32} (hR : zR rows lm u z S Sr) (nx0 : zn rows x0) (h : fJ7_fill_d0a16_6 N Kv6 S x0 x1 x3 x4 = some T) : zw (fJ7_fill_d0a16_6 N K6 Sr x0 x1 x3 x4) (sV rows lm u z T) := by
  unfold fJ7_fill_d0a16_6 at h
  unfold fJ7_fill_d0a16_6
  by_cases c : x4 ≤ x3
  · have h := (if_pos c).symm.trans h
    refine zw.t c ?_
    cases h
    exact zw.s hR
  · have h := (if_neg c).symm.trans h
    refine zw.f c ?_
    obtain ⟨S1, eS1, h⟩ := zb_some h
    obtain ⟨S1r, qS1, hR⟩ := hR.ls eS1
    refine zw.e qS1 ?_
    exact hK6 _ _ _ _ _ _ hR nx0 h
set_option maxRecDepth 100000 in
set_option maxHeartbeats 4000000 in
theorem tJ7_fill_d0a16_6 {N : Nat} {z : Nat} {T : zS}  {S : zS} {Sr : zS} {x0 : Nat} {x1 : Int64} {x3 : Int32} {x4 : Int32} (hR : zR rows lm u z S Sr) (nx0 : zn rows x0) (h : lJ7_fill_d0a16_6 N S x0 x1 x3 x4 = some T) : zw (lJ7_fill_d0a16_6 N Sr x0 x1 x3 x4) (sV rows lm u z T) := by
  unfold lJ7_fill_d0a16_6 at h
  unfold lJ7_fill_d0a16_6
  refine zl_sim (I := fun y y' => ∃ (S : zS) (Sr : zS) (x0 : Nat) (x1 : Int64) (x3 : Int32) (x4 : Int32), y = (S, x0, x1, x3, x4) ∧ y' = (Sr, x0, x1, x3, x4) ∧ zR rows lm u z S Sr ∧ zn rows x0) (Q := fun y' => (sV rows lm u z T)) ?_ N _ _ ⟨S, Sr, x0, x1, x3, x4, rfl, rfl, hR, nx0⟩ h
  rintro K K' hK y y' ⟨S, Sr, x0, x1, x3, x4, rfl, rfl, hR, nx0⟩ h
  exact sJ7_fill_d0a16_6 (fun S Sr x0 x1 x3 x4 hR nx0 h => hK _ _ ⟨S, Sr, x0, x1, x3, x4, rfl, rfl, hR, nx0⟩ h) hR nx0 h
set_option maxRecDepth 100000 in
set_option maxHeartbeats 4000000 in
theorem sJ7_fill_d0a16_0 {N : Nat} {z : Nat} {T : zS}  {S : zS} {Sr : zS} {x0 : Nat} {x1 : Int64} (hR : zR rows lm u z S Sr) (nx0 : zn rows x0) (h : fJ7_fill_d0a16_0 N S x0 x1 = some T) : zw (fJ7_fill_d0a16_0 N Sr x0 x1) (sV rows lm u z T) := by
  unfold fJ7_fill_d0a16_0 at h
  unfold fJ7_fill_d0a16_0
  obtain ⟨v2, ev2, h⟩ := zb_some h
  refine zw.e (hR.ln nx0 ev2) ?_
  exact tJ7_fill_d0a16_6  hR nx0 h
theorem sJ7_fill_d0a16 {N : Nat} {z : Nat} {T : zS} {S : zS} {Sr : zS} {x0 : Nat} {x1 : Int64} (hR : zR rows lm u z S Sr) (nx0 : zn rows x0) (h : fJ7_fill_d0a16 N S x0 x1 = some T) : zw (fJ7_fill_d0a16 N Sr x0 x1) (sV rows lm u z T) := sJ7_fill_d0a16_0 hR nx0 h
set_option maxRecDepth 100000 in
set_option maxHeartbeats 4000000 in
theorem sX3_doOneMore_47 {N : Nat} {z : Nat} {T : zS} {Kv2 : zS × Nat × Int32 × Int32 × Int32 → Option (zS)} {K2 : zS × Nat × Int32 × Int32 × Int32 → Option (zS)} (hK2 : ∀ (S : zS) (Sr : zS) (x0 : Nat) (x1 : Int32) (x2 : Int32) (x3 : Int32), zR rows lm u z S Sr → zn rows x0 → Kv2 (S, x0, x1, x2, x3) = some T → zw (K2 (Sr, x0, x1, x2, x3)) (sV rows lm u z T)) {S : zS} {Sr : zS} {x0 : Nat} {x1 : Int32} {x2 : Int32} {x3 : Int32} (hR : zR rows lm u z S Sr) (nx0 : zn rows x0) (h : fX3_doOneMore_47 N Kv2 S x0 x1 x2 x3 = some T) : zw (rX3_doOneMore_47 N K2 Sr x0 x1 x2 x3) (sV rows lm u z T) := by
  unfold fX3_doOneMore_47 at h
  unfold rX3_doOneMore_47
  exact hK2 _ _ _ _ _ _ hR nx0 h
set_option maxRecDepth 100000 in
set_option maxHeartbeats 4000000 in
theorem sX3_doOneMore_2 {N : Nat} {z : Nat} {T : zS} {Kv2 : zS × Nat × Int32 × Int32 × Int32 → Option (zS)} {K2 : zS × Nat × Int32 × Int32 × Int32 → Option (zS)} (hK2 : ∀ (S : zS) (Sr : zS) (x0 : Nat) (x1 : Int32) (x2 : Int32) (x3 : Int32), zR rows lm u z S Sr → zn rows x0 → Kv2 (S, x0, x1, x2, x3) = some T → zw (K2 (Sr, x0, x1, x2, x3)) (sV rows lm u z T)) {S : zS} {Sr : zS} {x0 : Nat} {x1 : Int32} {x2 : Int32} {x3 : Int32} (hR : zR rows lm u z S Sr) (nx0 : zn rows x0) (h : fX3_doOneMore_2 N Kv2 S x0 x1 x2 x3 = some T) : zw (rX3_doOneMore_2 N K2 Sr x0 x1 x2 x3) (sV rows lm u z T) := by
  unfold fX3_doOneMore_2 at h
  unfold rX3_doOneMore_2
  by_cases c : x2 ≤ x3
  · have h := (if_pos c).symm.trans h
    refine zw.t c ?_
    cases h
    exact zw.s hR
  · have h := (if_neg c).symm.trans h
    refine zw.f c ?_
    by_cases c : ((zush x1 x3) &&& (1 : Int32)) = (0 : Int32)
    · have h := (if_pos c).symm.trans h
      refine zw.t c ?_
      obtain ⟨v1, ev1, h⟩ := zb_some h
      have nv1 := hR.gn (by decide) ev1
      refine zw.e (hR.gr (by decide) ev1) ?_
      obtain ⟨v2, ev2, h⟩ := zb_some h
      refine zw.e (hR.il nv1 ev2) ?_
      by_cases c : (v2 &&& (x1 ^^^ (-1 : Int32))) = (0 : Int32)
      · have h := (if_pos c).symm.trans h
        refine zw.t c ?_
        obtain ⟨v3, ev3, h⟩ := zb_some h
        have nv3 := hR.gn (by decide) ev3
        refine zw.e (hR.gr (by decide) ev3) ?_
        obtain ⟨v4, ev4, h⟩ := zb_some h
        refine zw.e (hR.ll ev4) ?_
        obtain ⟨v5, ev5, h⟩ := zb_some h
        have nv5 := hR.gn (by decide) ev5
        refine zw.e (hR.gr (by decide) ev5) ?_
        obtain ⟨v6, ev6, h⟩ := zb_some h
        refine zw.e (hR.ll ev6) ?_
        obtain ⟨S7, eS7, h⟩ := zb_some h
        obtain ⟨S7r, qS7, hR⟩ := hR.ls eS7
        refine zw.e qS7 ?_
        exact sX3_doOneMore_47 hK2  hR nx0 h
      · have h := (if_neg c).symm.trans h
        refine zw.f c ?_
        exact sX3_doOneMore_47 hK2  hR nx0 h
    · have h := (if_neg c).symm.trans h
      refine zw.f c ?_
      exact sX3_doOneMore_47 hK2  hR nx0 h
set_option maxRecDepth 100000 in
set_option maxHeartbeats 4000000 in
theorem tX3_doOneMore_2 {N : Nat} {z : Nat} {T : zS}  {S : zS} {Sr : zS} {x0 : Nat} {x1 : Int32} {x2 : Int32} {x3 : Int32} (hR : zR rows lm u z S Sr) (nx0 : zn rows x0) (h : lX3_doOneMore_2 N S x0 x1 x2 x3 = some T) : zw (rlX3_doOneMore_2 N Sr x0 x1 x2 x3) (sV rows lm u z T) := by
  unfold lX3_doOneMore_2 at h
  unfold rlX3_doOneMore_2
  refine zl_sim (I := fun y y' => ∃ (S : zS) (Sr : zS) (x0 : Nat) (x1 : Int32) (x2 : Int32) (x3 : Int32), y = (S, x0, x1, x2, x3) ∧ y' = (Sr, x0, x1, x2, x3) ∧ zR rows lm u z S Sr ∧ zn rows x0) (Q := fun y' => (sV rows lm u z T)) ?_ N _ _ ⟨S, Sr, x0, x1, x2, x3, rfl, rfl, hR, nx0⟩ h
  rintro K K' hK y y' ⟨S, Sr, x0, x1, x2, x3, rfl, rfl, hR, nx0⟩ h
  exact sX3_doOneMore_2 (fun S Sr x0 x1 x2 x3 hR nx0 h => hK _ _ ⟨S, Sr, x0, x1, x2, x3, rfl, rfl, hR, nx0⟩ h) hR nx0 h
set_option maxRecDepth 100000 in
set_option maxHeartbeats 4000000 in
theorem sX3_doOneMore_0 {N : Nat} {z : Nat} {T : zS}  {S : zS} {Sr : zS} {x0 : Nat} {x1 : Int32} {x2 : Int32} (hR : zR rows lm u z S Sr) (nx0 : zn rows x0) (h : fX3_doOneMore_0 N S x0 x1 x2 = some T) : zw (rX3_doOneMore_0 N Sr x0 x1 x2) (sV rows lm u z T) := by
  unfold fX3_doOneMore_0 at h
  unfold rX3_doOneMore_0
  exact tX3_doOneMore_2  hR nx0 h
theorem sX3_doOneMore {N : Nat} {z : Nat} {T : zS} {S : zS} {Sr : zS} {x0 : Nat} {x1 : Int32} {x2 : Int32} (hR : zR rows lm u z S Sr) (nx0 : zn rows x0) (h : fX3_doOneMore N S x0 x1 x2 = some T) : zw (rX3_doOneMore N Sr x0 x1 x2) (sV rows lm u z T) := sX3_doOneMore_0 hR nx0 h
set_option maxRecDepth 100000 in
set_option maxHeartbeats 4000000 in
theorem sX3_numberedInputs_47 {N : Nat} {z : Nat} {r : Int32} {T : zS} {Kv5 : zS × Nat × Nat × Int32 × Int32 × Int32 → Option (Int32 × zS)} {K5 : zS × Nat × Nat × Int32 × Int32 × Int32 → Option (Int32 × zS)} (hK5 : ∀ (S : zS) (Sr : zS) (x0 : Nat) (x1 : Nat) (x2 : Int32) (x3 : Int32) (x4 : Int32), zR rows lm u z S Sr → zn rows x0 → zn rows x1 → Kv5 (S, x0, x1, x2, x3, x4) = some (r, T) → zw (K5 (Sr, x0, x1, x2, x3, x4)) (sQ rows lm u z r T)) {S : zS} {Sr : zS} {x0 : Nat} {x1 : Nat} {x2 : Int32} {x3 : Int32} {x4 : Int32} (hR : zR rows lm u z S Sr) (nx0 : zn rows x0) (nx1 : zn rows x1) (h : fX3_numberedInputs_47 N Kv5 S x0 x1 x2 x3 x4 = some (r, T)) : zw (rX3_numberedInputs_47 N K5 Sr x0 x1 x2 x3 x4) (sQ rows lm u z r T) := by
  unfold fX3_numberedInputs_47 at h
  unfold rX3_numberedInputs_47
  exact hK5 _ _ _ _ _ _ _ hR nx0 nx1 h
set_option maxRecDepth 100000 in
set_option maxHeartbeats 4000000 in
theorem sX3_numberedInputs_5 {N : Nat} {z : Nat} {r : Int32} {T : zS} {Kv5 : zS × Nat × Nat × Int32 × Int32 × Int32 → Option (Int32 × zS)} {K5 : zS × Nat × Nat × Int32 × Int32 × Int32 → Option (Int32 × zS)} (hK5 : ∀ (S : zS) (Sr : zS) (x0 : Nat) (x1 : Nat) (x2 : Int32) (x3 : Int32) (x4 : Int32), zR rows lm u z S Sr → zn rows x0 → zn rows x1 → Kv5 (S, x0, x1, x2, x3, x4) = some (r, T) → zw (K5 (Sr, x0, x1, x2, x3, x4)) (sQ rows lm u z r T)) {S : zS} {Sr : zS} {x0 : Nat} {x1 : Nat} {x2 : Int32} {x3 : Int32} {x4 : Int32} (hR : zR rows lm u z S Sr) (nx0 : zn rows x0) (nx1 : zn rows x1) (h : fX3_numberedInputs_5 N Kv5 S x0 x1 x2 x3 x4 = some (r, T)) : zw (rX3_numberedInputs_5 N K5 Sr x0 x1 x2 x3 x4) (sQ rows lm u z r T) := by
  unfold fX3_numberedInputs_5 at h
  unfold rX3_numberedInputs_5
  obtain ⟨v1, ev1, h⟩ := zb_some h
  have nv1 := hR.gn (by decide) ev1
  refine zw.e (hR.gr (by decide) ev1) ?_
  obtain ⟨v2, ev2, h⟩ := zb_some h
  refine zw.e (hR.il nv1 ev2) ?_
  by_cases c : v2 ≤ x4
  · have h := (if_pos c).symm.trans h
    refine zw.t c ?_
    cases h
    exact zw.s ⟨rfl, hR⟩
  · have h := (if_neg c).symm.trans h
    refine zw.f c ?_
    obtain ⟨u3, eu3, h⟩ := zb_some h
    refine zw.e (hR.rc eu3) ?_
    obtain ⟨v5, S4, eS4, h⟩ := zb2_some h
    refine sc2 (sX4_input hR nx1 eS4) (fun S4r hR => ?_)
    by_cases c : v5 < (100 : Int32)
    · have h := (if_pos c).symm.trans h
      refine zw.t c ?_
      exact sX3_numberedInputs_47 hK5  hR nx0 nx1 h
    · have h := (if_neg c).symm.trans h
      refine zw.f c ?_
      obtain ⟨v6, ev6, h⟩ := zb_some h
      have nv6 := hR.gn (by decide) ev6
      refine zw.e (hR.gr (by decide) ev6) ?_
      obtain ⟨v7, ev7, h⟩ := zb_some h
      refine zw.e (hR.il nv6 ev7) ?_
      obtain ⟨v8, ev8⟩ : ∃ y : Int32, y = (x3 ||| ((1 : Int32) <<< (v7 &&& 31))) := ⟨_, rfl⟩
      have h := zlet_at ev8 h
      refine zw_let ev8 ?_
      exact sX3_numberedInputs_47 hK5  hR nx0 nx1 h
set_option maxRecDepth 100000 in
set_option maxHeartbeats 4000000 in
theorem tX3_numberedInputs_5 {N : Nat} {z : Nat} {r : Int32} {T : zS}  {S : zS} {Sr : zS} {x0 : Nat} {x1 : Nat} {x2 : Int32} {x3 : Int32} {x4 : Int32} (hR : zR rows lm u z S Sr) (nx0 : zn rows x0) (nx1 : zn rows x1) (h : lX3_numberedInputs_5 N S x0 x1 x2 x3 x4 = some (r, T)) : zw (rlX3_numberedInputs_5 N Sr x0 x1 x2 x3 x4) (sQ rows lm u z r T) := by
  unfold lX3_numberedInputs_5 at h
  unfold rlX3_numberedInputs_5
  refine zl_sim (I := fun y y' => ∃ (S : zS) (Sr : zS) (x0 : Nat) (x1 : Nat) (x2 : Int32) (x3 : Int32) (x4 : Int32), y = (S, x0, x1, x2, x3, x4) ∧ y' = (Sr, x0, x1, x2, x3, x4) ∧ zR rows lm u z S Sr ∧ zn rows x0 ∧ zn rows x1) (Q := fun y' => (sQ rows lm u z r T)) ?_ N _ _ ⟨S, Sr, x0, x1, x2, x3, x4, rfl, rfl, hR, nx0, nx1⟩ h
  rintro K K' hK y y' ⟨S, Sr, x0, x1, x2, x3, x4, rfl, rfl, hR, nx0, nx1⟩ h
  exact sX3_numberedInputs_5 (fun S Sr x0 x1 x2 x3 x4 hR nx0 nx1 h => hK _ _ ⟨S, Sr, x0, x1, x2, x3, x4, rfl, rfl, hR, nx0, nx1⟩ h) hR nx0 nx1 h
set_option maxRecDepth 100000 in
set_option maxHeartbeats 4000000 in
theorem sX3_numberedInputs_0 {N : Nat} {z : Nat} {r : Int32} {T : zS}  {S : zS} {Sr : zS} {x0 : Nat} {x1 : Nat} {x2 : Int32} (hR : zR rows lm u z S Sr) (nx0 : zn rows x0) (nx1 : zn rows x1) (h : fX3_numberedInputs_0 N S x0 x1 x2 = some (r, T)) : zw (rX3_numberedInputs_0 N Sr x0 x1 x2) (sQ rows lm u z r T) := by
  unfold fX3_numberedInputs_0 at h
  unfold rX3_numberedInputs_0
  exact tX3_numberedInputs_5  hR nx0 nx1 h
theorem sX3_numberedInputs {N : Nat} {z : Nat} {r : Int32} {T : zS} {S : zS} {Sr : zS} {x0 : Nat} {x1 : Nat} {x2 : Int32} (hR : zR rows lm u z S Sr) (nx0 : zn rows x0) (nx1 : zn rows x1) (h : fX3_numberedInputs N S x0 x1 x2 = some (r, T)) : zw (rX3_numberedInputs N Sr x0 x1 x2) (sQ rows lm u z r T) := sX3_numberedInputs_0 hR nx0 nx1 h
set_option maxRecDepth 100000 in
set_option maxHeartbeats 4000000 in
theorem sX3_numberOthers_55 {N : Nat} {z : Nat} {r : Int32} {T : zS} {Kv5 : zS × Nat × Nat × Int32 × Int32 × Int32 → Option (Int32 × zS)} {K5 : zS × Nat × Nat × Int32 × Int32 × Int32 → Option (Int32 × zS)} (hK5 : ∀ (S : zS) (Sr : zS) (x0 : Nat) (x1 : Nat) (x2 : Int32) (x3 : Int32) (x4 : Int32), zR rows lm u z S Sr → zn rows x0 → zn rows x1 → Kv5 (S, x0, x1, x2, x3, x4) = some (r, T) → zw (K5 (Sr, x0, x1, x2, x3, x4)) (sQ rows lm u z r T)) {S : zS} {Sr : zS} {x0 : Nat} {x1 : Nat} {x2 : Int32} {x3 : Int32} {x4 : Int32} (hR : zR rows lm u z S Sr) (nx0 : zn rows x0) (nx1 : zn rows x1) (h : fX3_numberOthers_55 N Kv5 S x0 x1 x2 x3 x4 = some (r, T)) : zw (rX3_numberOthers_55 N K5 Sr x0 x1 x2 x3 x4) (sQ rows lm u z r T) := by
  unfold fX3_numberOthers_55 at h
  unfold rX3_numberOthers_55
  exact hK5 _ _ _ _ _ _ _ hR nx0 nx1 h
set_option maxRecDepth 100000 in
set_option maxHeartbeats 4000000 in
theorem sX3_numberOthers_5 {N : Nat} {z : Nat} {r : Int32} {T : zS} {Kv5 : zS × Nat × Nat × Int32 × Int32 × Int32 → Option (Int32 × zS)} {K5 : zS × Nat × Nat × Int32 × Int32 × Int32 → Option (Int32 × zS)} (hK5 : ∀ (S : zS) (Sr : zS) (x0 : Nat) (x1 : Nat) (x2 : Int32) (x3 : Int32) (x4 : Int32), zR rows lm u z S Sr → zn rows x0 → zn rows x1 → Kv5 (S, x0, x1, x2, x3, x4) = some (r, T) → zw (K5 (Sr, x0, x1, x2, x3, x4)) (sQ rows lm u z r T)) {S : zS} {Sr : zS} {x0 : Nat} {x1 : Nat} {x2 : Int32} {x3 : Int32} {x4 : Int32} (hR : zR rows lm u z S Sr) (nx0 : zn rows x0) (nx1 : zn rows x1) (h : fX3_numberOthers_5 N Kv5 S x0 x1 x2 x3 x4 = some (r, T)) : zw (rX3_numberOthers_5 N K5 Sr x0 x1 x2 x3 x4) (sQ rows lm u z r T) := by
  unfold fX3_numberOthers_5 at h
  unfold rX3_numberOthers_5
  by_cases c : x2 ≤ x4
  · have h := (if_pos c).symm.trans h
    refine zw.t c ?_
    cases h
    exact zw.s ⟨rfl, hR⟩
  · have h := (if_neg c).symm.trans h
    refine zw.f c ?_
    obtain ⟨v1, ev1, h⟩ := zb_some h
    have nv1 := hR.gn (by decide) ev1
    refine zw.e (hR.gr (by decide) ev1) ?_
    obtain ⟨v2, ev2, h⟩ := zb_some h
    refine zw.e (hR.il nv1 ev2) ?_
    by_cases c : ((zush v2 x4) &&& (1 : Int32)) = (0 : Int32)
    · have h := (if_pos c).symm.trans h
      refine zw.t c ?_
      exact sX3_numberOthers_55 hK5  hR nx0 nx1 h
    · have h := (if_neg c).symm.trans h
      refine zw.f c ?_
      by_cases c : (15 : Int32) ≤ x3
      · have h := (if_pos c).symm.trans h
        refine zw.t c ?_
        exact sX3_numberOthers_55 hK5  hR nx0 nx1 h
      · have h := (if_neg c).symm.trans h
        refine zw.f c ?_
        obtain ⟨v3, ev3, h⟩ := zb_some h
        have nv3 := hR.gn (by decide) ev3
        refine zw.e (hR.gr (by decide) ev3) ?_
        obtain ⟨S4, eS4, h⟩ := zb_some h
        obtain ⟨S4r, qS4, hR⟩ := hR.is nv3 eS4
        refine zw.e qS4 ?_
        obtain ⟨v5, ev5, h⟩ := zb_some h
        have nv5 := hR.gn (by decide) ev5
        refine zw.e (hR.gr (by decide) ev5) ?_
        obtain ⟨u6, eu6, h⟩ := zb_some h
        refine zw.e (hR.rc eu6) ?_
        obtain ⟨v8, S7, eS7, h⟩ := zb2_some h
        refine sc2 (sX3_numberedInputs hR nx0 nx1 eS7) (fun S7r hR => ?_)
        obtain ⟨S9, eS9, h⟩ := zb_some h
        obtain ⟨S9r, qS9, hR⟩ := hR.is nv5 eS9
        refine zw.e qS9 ?_
        exact sX3_numberOthers_55 hK5  hR nx0 nx1 h
set_option maxRecDepth 100000 in
set_option maxHeartbeats 4000000 in
theorem tX3_numberOthers_5 {N : Nat} {z : Nat} {r : Int32} {T : zS}  {S : zS} {Sr : zS} {x0 : Nat} {x1 : Nat} {x2 : Int32} {x3 : Int32} {x4 : Int32} (hR : zR rows lm u z S Sr) (nx0 : zn rows x0) (nx1 : zn rows x1) (h : lX3_numberOthers_5 N S x0 x1 x2 x3 x4 = some (r, T)) : zw (rlX3_numberOthers_5 N Sr x0 x1 x2 x3 x4) (sQ rows lm u z r T) := by
  unfold lX3_numberOthers_5 at h
  unfold rlX3_numberOthers_5
  refine zl_sim (I := fun y y' => ∃ (S : zS) (Sr : zS) (x0 : Nat) (x1 : Nat) (x2 : Int32) (x3 : Int32) (x4 : Int32), y = (S, x0, x1, x2, x3, x4) ∧ y' = (Sr, x0, x1, x2, x3, x4) ∧ zR rows lm u z S Sr ∧ zn rows x0 ∧ zn rows x1) (Q := fun y' => (sQ rows lm u z r T)) ?_ N _ _ ⟨S, Sr, x0, x1, x2, x3, x4, rfl, rfl, hR, nx0, nx1⟩ h
  rintro K K' hK y y' ⟨S, Sr, x0, x1, x2, x3, x4, rfl, rfl, hR, nx0, nx1⟩ h
  exact sX3_numberOthers_5 (fun S Sr x0 x1 x2 x3 x4 hR nx0 nx1 h => hK _ _ ⟨S, Sr, x0, x1, x2, x3, x4, rfl, rfl, hR, nx0, nx1⟩ h) hR nx0 nx1 h
set_option maxRecDepth 100000 in
set_option maxHeartbeats 4000000 in
theorem sX3_numberOthers_0 {N : Nat} {z : Nat} {r : Int32} {T : zS}  {S : zS} {Sr : zS} {x0 : Nat} {x1 : Nat} {x2 : Int32} (hR : zR rows lm u z S Sr) (nx0 : zn rows x0) (nx1 : zn rows x1) (h : fX3_numberOthers_0 N S x0 x1 x2 = some (r, T)) : zw (rX3_numberOthers_0 N Sr x0 x1 x2) (sQ rows lm u z r T) := by
  unfold fX3_numberOthers_0 at h
  unfold rX3_numberOthers_0
  exact tX3_numberOthers_5  hR nx0 nx1 h
theorem sX3_numberOthers {N : Nat} {z : Nat} {r : Int32} {T : zS} {S : zS} {Sr : zS} {x0 : Nat} {x1 : Nat} {x2 : Int32} (hR : zR rows lm u z S Sr) (nx0 : zn rows x0) (nx1 : zn rows x1) (h : fX3_numberOthers N S x0 x1 x2 = some (r, T)) : zw (rX3_numberOthers N Sr x0 x1 x2) (sQ rows lm u z r T) := sX3_numberOthers_0 hR nx0 nx1 h
set_option maxRecDepth 100000 in
set_option maxHeartbeats 4000000 in
theorem sX3_ordersOf_74 {N : Nat} {MC MS zT D1 D2 : Nat} {r : Int64} {T : zS} {Kv48 : zS × Nat × Nat × Nat × Nat × Int32 × Int32 × Int32 → Option (Int64 × zS × Nat)} {K48 : zS × Nat × Nat × Nat × Nat × Int32 × Int32 × Int32 → Option (Int64 × zS × Nat)} (hK48 : ∀ (S : zS) (Sr : zS) (z : Nat) (q : Nat) (w : Nat) (u : Nat) (x0 : Nat) (x3 : Int32) (x4 : Int32) (x5 : Int32), zR rows lm u z S Sr → u + D1 = D2 + z → zn rows x0 → Kv48 (S, z, q, w, x0, x3, x4, x5) = some (r, T, zT) → zw (K48 (Sr, z, q, w, x0, x3, x4, x5)) (oQ rows lm D1 D2 zT r T)) {S : zS} {Sr : zS} {z : Nat} {q : Nat} {w : Nat} {u : Nat} {x0 : Nat} {x3 : Int32} {x4 : Int32} {x5 : Int32} (hR : zR rows lm u z S Sr) (hu : u + D1 = D2 + z) (nx0 : zn rows x0) (h : fX3_ordersOf_74 N MC MS Kv48 S z q w x0 x3 x4 x5 = some (r, T, zT)) : zw (rX3_ordersOf_74 N MC MS K48 Sr z q w x0 x3 x4 x5) (oQ rows lm D1 D2 zT r T) := by
  unfold fX3_ordersOf_74 at h
  unfold rX3_ordersOf_74
  exact hK48 _ _ _ _ _ _ _ _ _ _ hR hu nx0 h
set_option maxRecDepth 100000 in
set_option maxHeartbeats 4000000 in
theorem sX3_ordersOf_48 {N : Nat} {MC MS zT D1 D2 : Nat} {r : Int64} {T : zS} {Kv48 : zS × Nat × Nat × Nat × Nat × Int32 × Int32 × Int32 → Option (Int64 × zS × Nat)} {K48 : zS × Nat × Nat × Nat × Nat × Int32 × Int32 × Int32 → Option (Int64 × zS × Nat)} (hK48 : ∀ (S : zS) (Sr : zS) (z : Nat) (q : Nat) (w : Nat) (u : Nat) (x0 : Nat) (x3 : Int32) (x4 : Int32) (x5 : Int32), zR rows lm u z S Sr → u + D1 = D2 + z → zn rows x0 → Kv48 (S, z, q, w, x0, x3, x4, x5) = some (r, T, zT) → zw (K48 (Sr, z, q, w, x0, x3, x4, x5)) (oQ rows lm D1 D2 zT r T)) {S : zS} {Sr : zS} {z : Nat} {q : Nat} {w : Nat} {u : Nat} {x0 : Nat} {x3 : Int32} {x4 : Int32} {x5 : Int32} (hR : zR rows lm u z S Sr) (hu : u + D1 = D2 + z) (nx0 : zn rows x0) (h : fX3_ordersOf_48 N MC MS Kv48 S z q w x0 x3 x4 x5 = some (r, T, zT)) : zw (rX3_ordersOf_48 N MC MS K48 Sr z q w x0 x3 x4 x5) (oQ rows lm D1 D2 zT r T) := by
  unfold fX3_ordersOf_48 at h
  unfold rX3_ordersOf_48
  by_cases c : x4 ≤ x5
  · have h := (if_pos c).symm.trans h
    refine zw.t c ?_
    obtain ⟨v1, ev1, h⟩ := zb_some h
    have nv1 := hR.gn (by decide) ev1
    refine zw.e (hR.gr (by decide) ev1) ?_
    obtain ⟨v2, ev2, h⟩ := zb_some h
    refine zw.e (hR.ll ev2) ?_
    obtain ⟨hf, h⟩ := zfin_some h
    cases h
    exact zfin_w hf ⟨rfl, rfl, _, hu, hR⟩
  · have h := (if_neg c).symm.trans h
    refine zw.f c ?_
    obtain ⟨v3, ev3, h⟩ := zb_some h
    have nv3 := hR.gn (by decide) ev3
    refine zw.e (hR.gr (by decide) ev3) ?_
    obtain ⟨v4, ev4, h⟩ := zb_some h
    refine zw.e (hR.ll ev4) ?_
    by_cases c : (lg_cmp v4 (0 : Int64)) = (0 : Int32)
    · have h := (if_pos c).symm.trans h
      refine zw.t c ?_
      exact sX3_ordersOf_74 hK48  hR hu nx0 h
    · have h := (if_neg c).symm.trans h
      refine zw.f c ?_
      obtain ⟨u5, eu5, h⟩ := zb_some h
      refine zw.e eu5 ?_
      obtain ⟨u6, eu6, h⟩ := zb_some h
      refine zw.e (hR.rc eu6) ?_
      obtain ⟨S7, eS7, h⟩ := zb_some h
      refine zw.c (sX3_doOneMore hR nx0 eS7) (fun S7r hR => ?_)
      exact sX3_ordersOf_74 hK48  hR hu nx0 h
set_option maxRecDepth 100000 in
set_option maxHeartbeats 4000000 in
theorem tX3_ordersOf_48 {N : Nat} {MC MS zT D1 D2 : Nat} {r : Int64} {T : zS}  {S : zS} {Sr : zS} {z : Nat} {q : Nat} {w : Nat} {u : Nat} {x0 : Nat} {x3 : Int32} {x4 : Int32} {x5 : Int32} (hR : zR rows lm u z S Sr) (hu : u + D1 = D2 + z) (nx0 : zn rows x0) (h : lX3_ordersOf_48 N MC MS S z q w x0 x3 x4 x5 = some (r, T, zT)) : zw (rlX3_ordersOf_48 N MC MS Sr z q w x0 x3 x4 x5) (oQ rows lm D1 D2 zT r T) := by
  unfold lX3_ordersOf_48 at h
  unfold rlX3_ordersOf_48
  refine zl_sim (I := fun y y' => ∃ (S : zS) (Sr : zS) (z : Nat) (q : Nat) (w : Nat) (u : Nat) (x0 : Nat) (x3 : Int32) (x4 : Int32) (x5 : Int32), y = (S, z, q, w, x0, x3, x4, x5) ∧ y' = (Sr, z, q, w, x0, x3, x4, x5) ∧ zR rows lm u z S Sr ∧ u + D1 = D2 + z ∧ zn rows x0) (Q := fun y' => (oQ rows lm D1 D2 zT r T)) ?_ N _ _ ⟨S, Sr, z, q, w, u, x0, x3, x4, x5, rfl, rfl, hR, hu, nx0⟩ h
  rintro K K' hK y y' ⟨S, Sr, z, q, w, u, x0, x3, x4, x5, rfl, rfl, hR, hu, nx0⟩ h
  exact sX3_ordersOf_48 (fun S Sr z q w u x0 x3 x4 x5 hR hu nx0 h => hK _ _ ⟨S, Sr, z, q, w, u, x0, x3, x4, x5, rfl, rfl, hR, hu, nx0⟩ h) hR hu nx0 h
set_option maxRecDepth 100000 in
set_option maxHeartbeats 4000000 in
theorem sX3_ordersOf_30 {N : Nat} {MC MS zT D1 D2 : Nat} {r : Int64} {T : zS}  {S : zS} {Sr : zS} {z : Nat} {q : Nat} {w : Nat} {u : Nat} {x0 : Nat} {x3 : Int32} {x4 : Int32} (hR : zR rows lm u z S Sr) (hu : u + D1 = D2 + z) (nx0 : zn rows x0) (h : fX3_ordersOf_30 N MC MS S z q w x0 x3 x4 = some (r, T, zT)) : zw (rX3_ordersOf_30 N MC MS Sr z q w x0 x3 x4) (oQ rows lm D1 D2 zT r T) := by
  unfold fX3_ordersOf_30 at h
  unfold rX3_ordersOf_30
  obtain ⟨v8, ev8, h⟩ := zb_some h
  have nv8 := hR.gn (by decide) ev8
  refine zw.e (hR.gr (by decide) ev8) ?_
  obtain ⟨u9, eu9, h⟩ := zb_some h
  refine zw.e eu9 ?_
  obtain ⟨S10, eS10, h⟩ := zb_some h
  refine zw.c (sJ7_fill_d0a16 hR nv8 eS10) (fun S10r hR => ?_)
  obtain ⟨v11, ev11, h⟩ := zb_some h
  have nv11 := hR.gn (by decide) ev11
  refine zw.e (hR.gr (by decide) ev11) ?_
  obtain ⟨S12, eS12, h⟩ := zb_some h
  obtain ⟨S12r, qS12, hR⟩ := hR.ls eS12
  refine zw.e qS12 ?_
  exact tX3_ordersOf_48  hR hu nx0 h
set_option maxRecDepth 100000 in
set_option maxHeartbeats 4000000 in
theorem sX3_ordersOf_0 {N : Nat} {MC MS zT D1 D2 : Nat} {r : Int64} {T : zS}  {S : zS} {Sr : zS} {z : Nat} {q : Nat} {w : Nat} {u : Nat} {x0 : Nat} {x1 : Nat} {x2 : Int32} (hR : zR rows lm u z S Sr) (hu : u + D1 = D2 + z) (nx0 : zn rows x0) (nx1 : zn rows x1) (h : fX3_ordersOf_0 N MC MS S z q w x0 x1 x2 = some (r, T, zT)) : zw (rX3_ordersOf_0 N MC MS Sr z q w x0 x1 x2) (oQ rows lm D1 D2 zT r T) := by
  unfold fX3_ordersOf_0 at h
  unfold rX3_ordersOf_0
  obtain ⟨u13, eu13, h⟩ := zb_some h
  refine zw.e eu13 ?_
  obtain ⟨u14, eu14, h⟩ := zb_some h
  refine zw.e (hR.rc eu14) ?_
  obtain ⟨v16, S15, eS15, h⟩ := zb2_some h
  refine sc2 (sX3_numberOthers hR nx0 nx1 eS15) (fun S15r hR => ?_)
  obtain ⟨v17, ev17, h⟩ := zb_some h
  have nv17 := hR.gn (by decide) ev17
  refine zw.e (hR.gr (by decide) ev17) ?_
  obtain ⟨v18, ev18, h⟩ := zb_some h
  refine zw.e (hR.ln nv17 ev18) ?_
  by_cases c : ((1 : Int32) <<< (v16 &&& 31)) ≤ v18
  · have h := (if_pos c).symm.trans h
    refine zw.t c ?_
    exact sX3_ordersOf_30  hR hu nx0 h
  · have h := (if_neg c).symm.trans h
    refine zw.f c ?_
    obtain ⟨k19, ek19, h⟩ := zb_some h
    refine zw.e ek19 ?_
    obtain ⟨u20, eu20, h⟩ := zb_some h
    refine zw.e eu20 ?_
    have nz := hR.nz
    have hR := hR.ad (k := k19)
    obtain ⟨S21, eS21⟩ : ∃ y : zS, y = zad S15 z 10 k19 := ⟨_, rfl⟩
    have h := zlet_at eS21 h
    obtain ⟨S21r, eS21r⟩ : ∃ y : zS, y = zad S15r z 10 k19 := ⟨_, rfl⟩
    refine zw_let eS21r ?_
    rw [← eS21, ← eS21r] at hR
    have hu : u + 1 + D1 = D2 + (z + 1) := by omega
    obtain ⟨S22, eS22, h⟩ := zb_some h
    obtain ⟨S22r, qS22, hR⟩ := hR.pr (by decide) nz eS22
    refine zw.e qS22 ?_
    exact sX3_ordersOf_30  hR hu nx0 h
theorem sX3_ordersOf {N : Nat} {MC MS zT D1 D2 : Nat} {r : Int64} {T : zS} {S : zS} {Sr : zS} {z : Nat} {q : Nat} {w : Nat} {u : Nat} {x0 : Nat} {x1 : Nat} {x2 : Int32} (hR : zR rows lm u z S Sr) (hu : u + D1 = D2 + z) (nx0 : zn rows x0) (nx1 : zn rows x1) (h : fX3_ordersOf N MC MS S z q w x0 x1 x2 = some (r, T, zT)) : zw (rX3_ordersOf N MC MS Sr z q w x0 x1 x2) (oQ rows lm D1 D2 zT r T) := sX3_ordersOf_0 hR hu nx0 nx1 h
set_option maxRecDepth 100000 in
set_option maxHeartbeats 4000000 in
theorem sX4_addStep_0 {N : Nat} {z : Nat} {r : Int32} {T : zS}  {S : zS} {Sr : zS} {x0 : Nat} {x1 : Int32} {x2 : Int32} {x3 : Int32} (hR : zR rows lm u z S Sr) (nx0 : zn rows x0) (h : fX4_addStep_0 N S x0 x1 x2 x3 = some (r, T)) : zw (rX4_addStep_0 N Sr x0 x1 x2 x3) (sQ rows lm u z r T) := by
  unfold fX4_addStep_0 at h
  unfold rX4_addStep_0
  obtain ⟨v1, ev1, h⟩ := zb_some h
  refine zw.e (hR.gi (by decide) ev1) ?_
  obtain ⟨v2, ev2, h⟩ := zb_some h
  have nv2 := hR.gn (by decide) ev2
  refine zw.e (hR.gr (by decide) ev2) ?_
  obtain ⟨S3, eS3, h⟩ := zb_some h
  obtain ⟨S3r, qS3, hR⟩ := hR.is nv2 eS3
  refine zw.e qS3 ?_
  obtain ⟨v4, ev4, h⟩ := zb_some h
  have nv4 := hR.gn (by decide) ev4
  refine zw.e (hR.gr (by decide) ev4) ?_
  obtain ⟨S5, eS5, h⟩ := zb_some h
  obtain ⟨S5r, qS5, hR⟩ := hR.is nv4 eS5
  refine zw.e qS5 ?_
  obtain ⟨v6, ev6, h⟩ := zb_some h
  have nv6 := hR.gn (by decide) ev6
  refine zw.e (hR.gr (by decide) ev6) ?_
  obtain ⟨S7, eS7, h⟩ := zb_some h
  obtain ⟨S7r, qS7, hR⟩ := hR.is nv6 eS7
  refine zw.e qS7 ?_
  obtain ⟨v8, ev8, h⟩ := zb_some h
  have nv8 := hR.gn (by decide) ev8
  refine zw.e (hR.gr (by decide) ev8) ?_
  obtain ⟨S9, eS9, h⟩ := zb_some h
  obtain ⟨S9r, qS9, hR⟩ := hR.is nv8 eS9
  refine zw.e qS9 ?_
  obtain ⟨v10, ev10, h⟩ := zb_some h
  have nv10 := hR.gn (by decide) ev10
  refine zw.e (hR.gr (by decide) ev10) ?_
  obtain ⟨u11, eu11, h⟩ := zb_some h
  refine zw.e (hR.rc eu11) ?_
  obtain ⟨v13, S12, eS12, h⟩ := zb2_some h
  refine sc2 (sX4_ownWord hR nx0 eS12) (fun S12r hR => ?_)
  obtain ⟨S14, eS14, h⟩ := zb_some h
  obtain ⟨S14r, qS14, hR⟩ := hR.is nv10 eS14
  refine zw.e qS14 ?_
  obtain ⟨v15, ev15, h⟩ := zb_some h
  refine zw.e (hR.gi (by decide) ev15) ?_
  obtain ⟨S16, eS16, h⟩ := zb_some h
  obtain ⟨S16r, qS16, hR⟩ := hR.pi (by decide) eS16
  refine zw.e qS16 ?_
  cases h
  exact zw.s ⟨rfl, hR⟩
theorem sX4_addStep {N : Nat} {z : Nat} {r : Int32} {T : zS} {S : zS} {Sr : zS} {x0 : Nat} {x1 : Int32} {x2 : Int32} {x3 : Int32} (hR : zR rows lm u z S Sr) (nx0 : zn rows x0) (h : fX4_addStep N S x0 x1 x2 x3 = some (r, T)) : zw (rX4_addStep N Sr x0 x1 x2 x3) (sQ rows lm u z r T) := sX4_addStep_0 hR nx0 h
set_option maxRecDepth 100000 in
set_option maxHeartbeats 4000000 in
theorem sX4_addInput_109 {N : Nat} {z : Nat} {r : Int32} {T : zS}  {S : zS} {Sr : zS} {x0 : Nat} {x1 : Int32} (hR : zR rows lm u z S Sr) (nx0 : zn rows x0) (h : fX4_addInput_109 N S x0 x1 = some (r, T)) : zw (rX4_addInput_109 N Sr x0 x1) (sQ rows lm u z r T) := by
  unfold fX4_addInput_109 at h
  unfold rX4_addInput_109
  obtain ⟨v1, ev1, h⟩ := zb_some h
  have nv1 := hR.gn (by decide) ev1
  refine zw.e (hR.gr (by decide) ev1) ?_
  obtain ⟨v2, ev2, h⟩ := zb_some h
  refine zw.e (hR.il nv1 ev2) ?_
  cases h
  exact zw.s ⟨rfl, hR⟩
set_option maxRecDepth 100000 in
set_option maxHeartbeats 4000000 in
theorem sX4_addInput_0 {N : Nat} {z : Nat} {r : Int32} {T : zS}  {S : zS} {Sr : zS} {x0 : Nat} {x1 : Int32} {x2 : Int32} (hR : zR rows lm u z S Sr) (nx0 : zn rows x0) (h : fX4_addInput_0 N S x0 x1 x2 = some (r, T)) : zw (rX4_addInput_0 N Sr x0 x1 x2) (sQ rows lm u z r T) := by
  unfold fX4_addInput_0 at h
  unfold rX4_addInput_0
  obtain ⟨v3, ev3, h⟩ := zb_some h
  have nv3 := hR.gn (by decide) ev3
  refine zw.e (hR.gr (by decide) ev3) ?_
  obtain ⟨v4, ev4, h⟩ := zb_some h
  have nv4 := hR.gn (by decide) ev4
  refine zw.e (hR.gr (by decide) ev4) ?_
  obtain ⟨v5, ev5, h⟩ := zb_some h
  refine zw.e (hR.il nv4 ev5) ?_
  obtain ⟨S6, eS6, h⟩ := zb_some h
  obtain ⟨S6r, qS6, hR⟩ := hR.is nv3 eS6
  refine zw.e qS6 ?_
  obtain ⟨v7, ev7, h⟩ := zb_some h
  have nv7 := hR.gn (by decide) ev7
  refine zw.e (hR.gr (by decide) ev7) ?_
  obtain ⟨v8, ev8, h⟩ := zb_some h
  refine zw.e (hR.il nv7 ev8) ?_
  obtain ⟨S9, eS9, h⟩ := zb_some h
  obtain ⟨S9r, qS9, hR⟩ := hR.is nv7 eS9
  refine zw.e qS9 ?_
  by_cases c : (100 : Int32) ≤ x2
  · have h := (if_pos c).symm.trans h
    refine zw.t c ?_
    obtain ⟨v10, ev10, h⟩ := zb_some h
    refine zw.e (hR.gi (by decide) ev10) ?_
    obtain ⟨S11, eS11, h⟩ := zb_some h
    obtain ⟨S11r, qS11, hR⟩ := hR.pi (by decide) eS11
    refine zw.e qS11 ?_
    obtain ⟨v12, ev12, h⟩ := zb_some h
    have nv12 := hR.gn (by decide) ev12
    refine zw.e (hR.gr (by decide) ev12) ?_
    obtain ⟨v13, ev13, h⟩ := zb_some h
    refine zw.e (hR.il nv12 ev13) ?_
    obtain ⟨v14, ev14, h⟩ := zb_some h
    have nv14 := hR.gn (by decide) ev14
    refine zw.e (hR.gr (by decide) ev14) ?_
    obtain ⟨v15, ev15, h⟩ := zb_some h
    refine zw.e (hR.il nv14 ev15) ?_
    obtain ⟨S16, eS16, h⟩ := zb_some h
    obtain ⟨S16r, qS16, hR⟩ := hR.is nv12 eS16
    refine zw.e qS16 ?_
    obtain ⟨v17, ev17, h⟩ := zb_some h
    have nv17 := hR.gn (by decide) ev17
    refine zw.e (hR.gr (by decide) ev17) ?_
    obtain ⟨v18, ev18, h⟩ := zb_some h
    refine zw.e (hR.il nv17 ev18) ?_
    obtain ⟨v19, ev19, h⟩ := zb_some h
    have nv19 := hR.gn (by decide) ev19
    refine zw.e (hR.gr (by decide) ev19) ?_
    obtain ⟨v20, ev20, h⟩ := zb_some h
    refine zw.e (hR.il nv19 ev20) ?_
    obtain ⟨S21, eS21, h⟩ := zb_some h
    obtain ⟨S21r, qS21, hR⟩ := hR.is nv17 eS21
    refine zw.e qS21 ?_
    obtain ⟨v22, ev22, h⟩ := zb_some h
    have nv22 := hR.gn (by decide) ev22
    refine zw.e (hR.gr (by decide) ev22) ?_
    obtain ⟨v23, ev23, h⟩ := zb_some h
    refine zw.e (hR.il nv22 ev23) ?_
    obtain ⟨v24, ev24, h⟩ := zb_some h
    have nv24 := hR.gn (by decide) ev24
    refine zw.e (hR.gr (by decide) ev24) ?_
    obtain ⟨v25, ev25, h⟩ := zb_some h
    refine zw.e (hR.il nv24 ev25) ?_
    obtain ⟨S26, eS26, h⟩ := zb_some h
    obtain ⟨S26r, qS26, hR⟩ := hR.is nv22 eS26
    refine zw.e qS26 ?_
    exact sX4_addInput_109  hR nx0 h
  · have h := (if_neg c).symm.trans h
    refine zw.f c ?_
    obtain ⟨v27, ev27, h⟩ := zb_some h
    have nv27 := hR.gn (by decide) ev27
    refine zw.e (hR.gr (by decide) ev27) ?_
    obtain ⟨v28, ev28, h⟩ := zb_some h
    refine zw.e (hR.il nv27 ev28) ?_
    obtain ⟨S29, eS29, h⟩ := zb_some h
    obtain ⟨S29r, qS29, hR⟩ := hR.is nv27 eS29
    refine zw.e qS29 ?_
    exact sX4_addInput_109  hR nx0 h
theorem sX4_addInput {N : Nat} {z : Nat} {r : Int32} {T : zS} {S : zS} {Sr : zS} {x0 : Nat} {x1 : Int32} {x2 : Int32} (hR : zR rows lm u z S Sr) (nx0 : zn rows x0) (h : fX4_addInput N S x0 x1 x2 = some (r, T)) : zw (rX4_addInput N Sr x0 x1 x2) (sQ rows lm u z r T) := sX4_addInput_0 hR nx0 h
set_option maxRecDepth 100000 in
set_option maxHeartbeats 4000000 in
theorem sX5_isSameAs_15 {N : Nat} {z : Nat} {r : Int32} {T : zS} {Kv15 : zS × Nat × Nat × Int32 → Option (Int32 × zS)} {K15 : zS × Nat × Nat × Int32 → Option (Int32 × zS)} (hK15 : ∀ (S : zS) (Sr : zS) (x0 : Nat) (x1 : Nat) (x2 : Int32), zR rows lm u z S Sr → zn rows x0 → zn rows x1 → Kv15 (S, x0, x1, x2) = some (r, T) → zw (K15 (Sr, x0, x1, x2)) (sQ rows lm u z r T)) {S : zS} {Sr : zS} {x0 : Nat} {x1 : Nat} {x2 : Int32} (hR : zR rows lm u z S Sr) (nx0 : zn rows x0) (nx1 : zn rows x1) (h : fX5_isSameAs_15 N Kv15 S x0 x1 x2 = some (r, T)) : zw (rX5_isSameAs_15 N K15 Sr x0 x1 x2) (sQ rows lm u z r T) := by
  unfold fX5_isSameAs_15 at h
  unfold rX5_isSameAs_15
  obtain ⟨v1, ev1, h⟩ := zb_some h
  refine zw.e (hR.gz ev1) ?_
  by_cases c : v1 ≤ x2
  · have h := (if_pos c).symm.trans h
    refine zw.t c ?_
    cases h
    exact zw.s ⟨rfl, hR⟩
  · have h := (if_neg c).symm.trans h
    refine zw.f c ?_
    obtain ⟨v2, ev2, h⟩ := zb_some h
    obtain ⟨bv2, qv2, pv2⟩ := hR.gb ev2
    refine zw.e qv2 ?_
    obtain ⟨v3, ev3, h⟩ := zb_some h
    refine zw.e (hR.ib pv2 ev3) ?_
    obtain ⟨v4, ev4, h⟩ := zb_some h
    obtain ⟨bv4, qv4, pv4⟩ := hR.gb ev4
    refine zw.e qv4 ?_
    obtain ⟨v5, ev5, h⟩ := zb_some h
    refine zw.e (hR.ib pv4 ev5) ?_
    by_cases c : v3 = v5
    · have h := (if_pos c).symm.trans h
      refine zw.t c ?_
      exact hK15 _ _ _ _ _ hR nx0 nx1 h
    · have h := (if_neg c).symm.trans h
      refine zw.f c ?_
      cases h
      exact zw.s ⟨rfl, hR⟩
set_option maxRecDepth 100000 in
set_option maxHeartbeats 4000000 in
theorem tX5_isSameAs_15 {N : Nat} {z : Nat} {r : Int32} {T : zS}  {S : zS} {Sr : zS} {x0 : Nat} {x1 : Nat} {x2 : Int32} (hR : zR rows lm u z S Sr) (nx0 : zn rows x0) (nx1 : zn rows x1) (h : lX5_isSameAs_15 N S x0 x1 x2 = some (r, T)) : zw (rlX5_isSameAs_15 N Sr x0 x1 x2) (sQ rows lm u z r T) := by
  unfold lX5_isSameAs_15 at h
  unfold rlX5_isSameAs_15
  refine zl_sim (I := fun y y' => ∃ (S : zS) (Sr : zS) (x0 : Nat) (x1 : Nat) (x2 : Int32), y = (S, x0, x1, x2) ∧ y' = (Sr, x0, x1, x2) ∧ zR rows lm u z S Sr ∧ zn rows x0 ∧ zn rows x1) (Q := fun y' => (sQ rows lm u z r T)) ?_ N _ _ ⟨S, Sr, x0, x1, x2, rfl, rfl, hR, nx0, nx1⟩ h
  rintro K K' hK y y' ⟨S, Sr, x0, x1, x2, rfl, rfl, hR, nx0, nx1⟩ h
  exact sX5_isSameAs_15 (fun S Sr x0 x1 x2 hR nx0 nx1 h => hK _ _ ⟨S, Sr, x0, x1, x2, rfl, rfl, hR, nx0, nx1⟩ h) hR nx0 nx1 h
set_option maxRecDepth 100000 in
set_option maxHeartbeats 4000000 in
theorem sX5_isSameAs_0 {N : Nat} {z : Nat} {r : Int32} {T : zS}  {S : zS} {Sr : zS} {x0 : Nat} {x1 : Nat} (hR : zR rows lm u z S Sr) (nx0 : zn rows x0) (nx1 : zn rows x1) (h : fX5_isSameAs_0 N S x0 x1 = some (r, T)) : zw (rX5_isSameAs_0 N Sr x0 x1) (sQ rows lm u z r T) := by
  unfold fX5_isSameAs_0 at h
  unfold rX5_isSameAs_0
  obtain ⟨v6, ev6, h⟩ := zb_some h
  refine zw.e (hR.gz ev6) ?_
  obtain ⟨v7, ev7, h⟩ := zb_some h
  refine zw.e (hR.gz ev7) ?_
  by_cases c : v6 = v7
  · have h := (if_pos c).symm.trans h
    refine zw.t c ?_
    exact tX5_isSameAs_15  hR nx0 nx1 h
  · have h := (if_neg c).symm.trans h
    refine zw.f c ?_
    cases h
    exact zw.s ⟨rfl, hR⟩
theorem sX5_isSameAs {N : Nat} {z : Nat} {r : Int32} {T : zS} {S : zS} {Sr : zS} {x0 : Nat} {x1 : Nat} (hR : zR rows lm u z S Sr) (nx0 : zn rows x0) (nx1 : zn rows x1) (h : fX5_isSameAs N S x0 x1 = some (r, T)) : zw (rX5_isSameAs N Sr x0 x1) (sQ rows lm u z r T) := sX5_isSameAs_0 hR nx0 nx1 h
set_option maxRecDepth 100000 in
set_option maxHeartbeats 4000000 in
theorem sX6_tapeTo_0 {N : Nat} {r : Int32} {T : zS}  {S : zS} {Sr : zS} {z : Nat} {x0 : Nat} {x1 : Int32} (hR : zR rows lm u z S Sr) (nx0 : zn rows x0) (h : fX6_tapeTo_0 N S x0 x1 = some (r, T)) : zw (rX6_tapeTo_0 N Sr z x0 x1) (tQ rows lm u z r T) := by
  unfold fX6_tapeTo_0 at h
  unfold rX6_tapeTo_0
  refine zgeI_w (Nat.le_refl _) ?_
  obtain ⟨v1, ev1, h⟩ := zb_some h
  have nv1 := hR.gn (by decide) ev1
  refine zw.e (hR.gr (by decide) ev1) ?_
  obtain ⟨v2, ev2, h⟩ := zb_some h
  have nv2 := hR.an (by decide) ev2
  refine zw.e (hR.al (by decide) ev2) ?_
  obtain ⟨S3, eS3, h⟩ := zb_some h
  obtain ⟨S3r, qS3, hR⟩ := hR.pz eS3
  refine zw.e qS3 ?_
  obtain ⟨v4, ev4, h⟩ := zb_some h
  have nv4 := hR.gn (by decide) ev4
  refine zw.e (hR.gr (by decide) ev4) ?_
  obtain ⟨v5, ev5, h⟩ := zb_some h
  have nv5 := hR.an (by decide) ev5
  refine zw.e (hR.al (by decide) ev5) ?_
  obtain ⟨v6, ev6, h⟩ := zb_some h
  have nv6 := hR.gn (by decide) ev6
  refine zw.e (hR.gr (by decide) ev6) ?_
  obtain ⟨u7, eu7, h⟩ := zb_some h
  refine zw.e (hR.rc eu7) ?_
  obtain ⟨v10, S8, eS8, h⟩ := zb2_some h
  refine sc3 (sX5_append hR nv5 nv6 eS8) (fun S8r z9 hmz9 hR => ?_)
  refine zgeI_w hmz9 ?_
  obtain ⟨v11, ev11, h⟩ := zb_some h
  have nv11 := hR.gn (by decide) ev11
  refine zw.e (hR.gr (by decide) ev11) ?_
  obtain ⟨S12, eS12, h⟩ := zb_some h
  obtain ⟨S12r, qS12, hR⟩ := hR.pz eS12
  refine zw.e qS12 ?_
  obtain ⟨v13, ev13, h⟩ := zb_some h
  have nv13 := hR.gn (by decide) ev13
  refine zw.e (hR.gr (by decide) ev13) ?_
  obtain ⟨v14, ev14, h⟩ := zb_some h
  have nv14 := hR.an (by decide) ev14
  refine zw.e (hR.al (by decide) ev14) ?_
  obtain ⟨v15, ev15, h⟩ := zb_some h
  refine zw.e (hR.gz ev15) ?_
  cases h
  exact zw.s ⟨rfl, Nat.le_refl _, hR⟩
theorem sX6_tapeTo {N : Nat} {r : Int32} {T : zS} {S : zS} {Sr : zS} {z : Nat} {x0 : Nat} {x1 : Int32} (hR : zR rows lm u z S Sr) (nx0 : zn rows x0) (h : fX6_tapeTo N S x0 x1 = some (r, T)) : zw (rX6_tapeTo N Sr z x0 x1) (tQ rows lm u z r T) := sX6_tapeTo_0 hR nx0 h
set_option maxRecDepth 100000 in
set_option maxHeartbeats 4000000 in
theorem sX7_feed_37 {N : Nat} {r : Int32} {T : zS} {Kv37 : zS × Int32 × Int32 × Nat × Int32 → Option (Int32 × zS)} {K37 : zS × Nat × Int32 × Int32 × Nat × Int32 → Option (Int32 × zS × Nat)} (hK37 : ∀ (S : zS) (Sr : zS) (z : Nat) (x1 : Int32) (x2 : Int32) (x3 : Nat) (x4 : Int32), zR rows lm u z S Sr → zn rows x3 → Kv37 (S, x1, x2, x3, x4) = some (r, T) → zw (K37 (Sr, z, x1, x2, x3, x4)) (tQ rows lm u z r T)) {S : zS} {Sr : zS} {z : Nat} {x1 : Int32} {x2 : Int32} {x3 : Nat} {x4 : Int32} (hR : zR rows lm u z S Sr) (nx3 : zn rows x3) (h : fX7_feed_37 N Kv37 S x1 x2 x3 x4 = some (r, T)) : zw (rX7_feed_37 N K37 Sr z x1 x2 x3 x4) (tQ rows lm u z r T) := by
  unfold fX7_feed_37 at h
  unfold rX7_feed_37
  refine zgeI_w (Nat.le_refl _) ?_
  by_cases c : x1 ≤ x4
  · have h := (if_pos c).symm.trans h
    refine zw.t c ?_
    obtain ⟨v1, ev1, h⟩ := zb_some h
    refine zw.e (hR.gz ev1) ?_
    cases h
    exact zw.s ⟨rfl, Nat.le_refl _, hR⟩
  · have h := (if_neg c).symm.trans h
    refine zw.f c ?_
    obtain ⟨u2, eu2, h⟩ := zb_some h
    refine zw.e (hR.rc eu2) ?_
    obtain ⟨v5, S3, eS3, h⟩ := zb2_some h
    refine sc3 (sX5_put hR nx3 eS3) (fun S3r z4 hmz4 hR => ?_)
    refine zgeI_w hmz4 ?_
    exact hK37 _ _ _ _ _ _ _ hR nx3 h
set_option maxRecDepth 100000 in
set_option maxHeartbeats 4000000 in
theorem tX7_feed_37 {N : Nat} {r : Int32} {T : zS}  {S : zS} {Sr : zS} {z : Nat} {x1 : Int32} {x2 : Int32} {x3 : Nat} {x4 : Int32} (hR : zR rows lm u z S Sr) (nx3 : zn rows x3) (h : lX7_feed_37 N S x1 x2 x3 x4 = some (r, T)) : zw (rlX7_feed_37 N Sr z x1 x2 x3 x4) (tQ rows lm u z r T) := by
  unfold lX7_feed_37 at h
  unfold rlX7_feed_37
  refine zl_sim (I := fun y y' => ∃ (S : zS) (Sr : zS) (z : Nat) (x1 : Int32) (x2 : Int32) (x3 : Nat) (x4 : Int32), y = (S, x1, x2, x3, x4) ∧ y' = (Sr, z, x1, x2, x3, x4) ∧ zR rows lm u z S Sr ∧ zn rows x3) (Q := fun y' => (tQ rows lm u y'.2.1 r T)) ?_ N _ _ ⟨S, Sr, z, x1, x2, x3, x4, rfl, rfl, hR, nx3⟩ h
  rintro K K' hK y y' ⟨S, Sr, z, x1, x2, x3, x4, rfl, rfl, hR, nx3⟩ h
  exact sX7_feed_37 (fun S Sr z x1 x2 x3 x4 hR nx3 h => hK _ _ ⟨S, Sr, z, x1, x2, x3, x4, rfl, rfl, hR, nx3⟩ h) hR nx3 h
set_option maxRecDepth 100000 in
set_option maxHeartbeats 4000000 in
theorem sX7_feed_10 {N : Nat} {r : Int32} {T : zS}  {S : zS} {Sr : zS} {z : Nat} (hR : zR rows lm u z S Sr) (h : fX7_feed_10 N S = some (r, T)) : zw (rX7_feed_10 N Sr z) (tQ rows lm u z r T) := by
  unfold fX7_feed_10 at h
  unfold rX7_feed_10
  refine zgeI_w (Nat.le_refl _) ?_
  cases h
  exact zw.s ⟨rfl, Nat.le_refl _, hR⟩
set_option maxRecDepth 100000 in
set_option maxHeartbeats 4000000 in
theorem sX7_feed_0 {N : Nat} {r : Int32} {T : zS}  {S : zS} {Sr : zS} {z : Nat} {x0 : Nat} {x1 : Int32} {x2 : Int32} (hR : zR rows lm u z S Sr) (nx0 : zn rows x0) (h : fX7_feed_0 N S x0 x1 x2 = some (r, T)) : zw (rX7_feed_0 N Sr z x0 x1 x2) (tQ rows lm u z r T) := by
  unfold fX7_feed_0 at h
  unfold rX7_feed_0
  refine zgeI_w (Nat.le_refl _) ?_
  by_cases c : x1 < (1 : Int32)
  · have h := (if_pos c).symm.trans h
    refine zw.t c ?_
    exact sX7_feed_10  hR h
  · have h := (if_neg c).symm.trans h
    refine zw.f c ?_
    by_cases c : x1 ≤ (4 : Int32)
    · have h := (if_pos c).symm.trans h
      refine zw.t c ?_
      obtain ⟨v6, ev6, h⟩ := zb_some h
      have nv6 := hR.gn (by decide) ev6
      refine zw.e (hR.gr (by decide) ev6) ?_
      obtain ⟨v7, ev7, h⟩ := zb_some h
      have nv7 := hR.gn (by decide) ev7
      refine zw.e (hR.gr (by decide) ev7) ?_
      obtain ⟨v8, ev8, h⟩ := zb_some h
      refine zw.e (hR.gz ev8) ?_
      by_cases c : (v8 + x1) ≤ (60 : Int32)
      · have h := (if_pos c).symm.trans h
        refine zw.t c ?_
        exact tX7_feed_37  hR nv7 h
      · have h := (if_neg c).symm.trans h
        refine zw.f c ?_
        cases h
        exact zw.s ⟨rfl, Nat.le_refl _, hR⟩
    · have h := (if_neg c).symm.trans h
      refine zw.f c ?_
      exact sX7_feed_10  hR h
theorem sX7_feed {N : Nat} {r : Int32} {T : zS} {S : zS} {Sr : zS} {z : Nat} {x0 : Nat} {x1 : Int32} {x2 : Int32} (hR : zR rows lm u z S Sr) (nx0 : zn rows x0) (h : fX7_feed N S x0 x1 x2 = some (r, T)) : zw (rX7_feed N Sr z x0 x1 x2) (tQ rows lm u z r T) := sX7_feed_0 hR nx0 h
set_option maxRecDepth 100000 in
set_option maxHeartbeats 4000000 in
theorem sX7_text_0 {N : Nat} {r : Int32} {T : zS}  {S : zS} {Sr : zS} {z : Nat} {x0 : Nat} (hR : zR rows lm u z S Sr) (nx0 : zn rows x0) (h : fX7_text_0 N S x0 = some (r, T)) : zw (rX7_text_0 N Sr z x0) (tQ rows lm u z r T) := by
  unfold fX7_text_0 at h
  unfold rX7_text_0
  refine zgeI_w (Nat.le_refl _) ?_
  obtain ⟨v1, ev1, h⟩ := zb_some h
  have nv1 := hR.gn (by decide) ev1
  refine zw.e (hR.gr (by decide) ev1) ?_
  obtain ⟨v2, ev2, h⟩ := zb_some h
  refine zw.e (hR.gi (by decide) ev2) ?_
  by_cases c : v2 < (20 : Int32)
  · have h := (if_pos c).symm.trans h
    refine zw.t c ?_
    obtain ⟨v3, ev3, h⟩ := zb_some h
    have nv3 := hR.gn (by decide) ev3
    refine zw.e (hR.gr (by decide) ev3) ?_
    obtain ⟨v4, ev4, h⟩ := zb_some h
    have nv4 := hR.gn (by decide) ev4
    refine zw.e (hR.gr (by decide) ev4) ?_
    obtain ⟨v5, ev5, h⟩ := zb_some h
    refine zw.e (hR.gi (by decide) ev5) ?_
    obtain ⟨u6, eu6, h⟩ := zb_some h
    refine zw.e (hR.rc eu6) ?_
    obtain ⟨v9, S7, eS7, h⟩ := zb2_some h
    refine sc3 (sX6_tapeTo hR nv3 eS7) (fun S7r z8 hmz8 hR => ?_)
    refine zgeI_w hmz8 ?_
    obtain ⟨v10, ev10, h⟩ := zb_some h
    have nv10 := hR.gn (by decide) ev10
    refine zw.e (hR.gr (by decide) ev10) ?_
    obtain ⟨v11, ev11, h⟩ := zb_some h
    refine zw.e (hR.gi (by decide) ev11) ?_
    obtain ⟨S12, eS12, h⟩ := zb_some h
    obtain ⟨S12r, qS12, hR⟩ := hR.pi (by decide) eS12
    refine zw.e qS12 ?_
    obtain ⟨v13, ev13, h⟩ := zb_some h
    have nv13 := hR.gn (by decide) ev13
    refine zw.e (hR.gr (by decide) ev13) ?_
    obtain ⟨v14, ev14, h⟩ := zb_some h
    refine zw.e (hR.gi (by decide) ev14) ?_
    cases h
    exact zw.s ⟨rfl, Nat.le_refl _, hR⟩
  · have h := (if_neg c).symm.trans h
    refine zw.f c ?_
    cases h
    exact zw.s ⟨rfl, Nat.le_refl _, hR⟩
theorem sX7_text {N : Nat} {r : Int32} {T : zS} {S : zS} {Sr : zS} {z : Nat} {x0 : Nat} (hR : zR rows lm u z S Sr) (nx0 : zn rows x0) (h : fX7_text N S x0 = some (r, T)) : zw (rX7_text N Sr z x0) (tQ rows lm u z r T) := sX7_text_0 hR nx0 h
set_option maxRecDepth 100000 in
set_option maxHeartbeats 4000000 in
theorem sX7_isText_20 {N : Nat} {z : Nat} {r : Int32} {T : zS}  {S : zS} {Sr : zS} {y0 : Int32} (hR : zR rows lm u z S Sr) (h : fX7_isText_20 N S y0 = some (r, T)) : zw (rX7_isText_20 N Sr y0) (sQ rows lm u z r T) := by
  unfold fX7_isText_20 at h
  unfold rX7_isText_20
  cases h
  exact zw.s ⟨rfl, hR⟩
set_option maxRecDepth 100000 in
set_option maxHeartbeats 4000000 in
theorem sX7_isText_19 {N : Nat} {z : Nat} {r : Int32} {T : zS}  {S : zS} {Sr : zS} (hR : zR rows lm u z S Sr) (h : fX7_isText_19 N S = some (r, T)) : zw (rX7_isText_19 N Sr) (sQ rows lm u z r T) := by
  unfold fX7_isText_19 at h
  unfold rX7_isText_19
  exact sX7_isText_20  hR h
set_option maxRecDepth 100000 in
set_option maxHeartbeats 4000000 in
theorem sX7_isText_0 {N : Nat} {z : Nat} {r : Int32} {T : zS}  {S : zS} {Sr : zS} {x0 : Nat} {x1 : Int32} (hR : zR rows lm u z S Sr) (nx0 : zn rows x0) (h : fX7_isText_0 N S x0 x1 = some (r, T)) : zw (rX7_isText_0 N Sr x0 x1) (sQ rows lm u z r T) := by
  unfold fX7_isText_0 at h
  unfold rX7_isText_0
  by_cases c : x1 < (0 : Int32)
  · have h := (if_pos c).symm.trans h
    refine zw.t c ?_
    exact sX7_isText_19  hR h
  · have h := (if_neg c).symm.trans h
    refine zw.f c ?_
    obtain ⟨v1, ev1, h⟩ := zb_some h
    have nv1 := hR.gn (by decide) ev1
    refine zw.e (hR.gr (by decide) ev1) ?_
    obtain ⟨v2, ev2, h⟩ := zb_some h
    refine zw.e (hR.gi (by decide) ev2) ?_
    by_cases c : v2 ≤ x1
    · have h := (if_pos c).symm.trans h
      refine zw.t c ?_
      exact sX7_isText_19  hR h
    · have h := (if_neg c).symm.trans h
      refine zw.f c ?_
      exact sX7_isText_20  hR h
theorem sX7_isText {N : Nat} {z : Nat} {r : Int32} {T : zS} {S : zS} {Sr : zS} {x0 : Nat} {x1 : Int32} (hR : zR rows lm u z S Sr) (nx0 : zn rows x0) (h : fX7_isText N S x0 x1 = some (r, T)) : zw (rX7_isText N Sr x0 x1) (sQ rows lm u z r T) := sX7_isText_0 hR nx0 h
set_option maxRecDepth 100000 in
set_option maxHeartbeats 4000000 in
theorem sX7_write_0 {N : Nat} {r : Int32} {T : zS}  {S : zS} {Sr : zS} {z : Nat} {x0 : Nat} {x1 : Int32} (hR : zR rows lm u z S Sr) (nx0 : zn rows x0) (h : fX7_write_0 N S x0 x1 = some (r, T)) : zw (rX7_write_0 N Sr z x0 x1) (tQ rows lm u z r T) := by
  unfold fX7_write_0 at h
  unfold rX7_write_0
  refine zgeI_w (Nat.le_refl _) ?_
  obtain ⟨u1, eu1, h⟩ := zb_some h
  refine zw.e (hR.rc eu1) ?_
  obtain ⟨v3, S2, eS2, h⟩ := zb2_some h
  refine sc2 (sX7_isText hR nx0 eS2) (fun S2r hR => ?_)
  by_cases c : v3 = (0 : Int32)
  · have h := (if_pos c).symm.trans h
    refine zw.t c ?_
    cases h
    exact zw.s ⟨rfl, Nat.le_refl _, hR⟩
  · have h := (if_neg c).symm.trans h
    refine zw.f c ?_
    obtain ⟨v4, ev4, h⟩ := zb_some h
    have nv4 := hR.gn (by decide) ev4
    refine zw.e (hR.gr (by decide) ev4) ?_
    obtain ⟨u5, eu5, h⟩ := zb_some h
    refine zw.e (hR.rc eu5) ?_
    obtain ⟨v8, S6, eS6, h⟩ := zb2_some h
    refine sc3 (sX6_tapeTo hR nv4 eS6) (fun S6r z7 hmz7 hR => ?_)
    refine zgeI_w hmz7 ?_
    cases h
    exact zw.s ⟨rfl, Nat.le_refl _, hR⟩
theorem sX7_write {N : Nat} {r : Int32} {T : zS} {S : zS} {Sr : zS} {z : Nat} {x0 : Nat} {x1 : Int32} (hR : zR rows lm u z S Sr) (nx0 : zn rows x0) (h : fX7_write N S x0 x1 = some (r, T)) : zw (rX7_write N Sr z x0 x1) (tQ rows lm u z r T) := sX7_write_0 hR nx0 h
set_option maxRecDepth 100000 in
set_option maxHeartbeats 4000000 in
theorem sX7_isBit_14 {N : Nat} {z : Nat} {r : Int32} {T : zS}  {S : zS} {Sr : zS} {y0 : Int32} (hR : zR rows lm u z S Sr) (h : fX7_isBit_14 N S y0 = some (r, T)) : zw (rX7_isBit_14 N Sr y0) (sQ rows lm u z r T) := by
  unfold fX7_isBit_14 at h
  unfold rX7_isBit_14
  cases h
  exact zw.s ⟨rfl, hR⟩
set_option maxRecDepth 100000 in
set_option maxHeartbeats 4000000 in
theorem sX7_isBit_9 {N : Nat} {z : Nat} {r : Int32} {T : zS}  {S : zS} {Sr : zS} (hR : zR rows lm u z S Sr) (h : fX7_isBit_9 N S = some (r, T)) : zw (rX7_isBit_9 N Sr) (sQ rows lm u z r T) := by
  unfold fX7_isBit_9 at h
  unfold rX7_isBit_9
  exact sX7_isBit_14  hR h
set_option maxRecDepth 100000 in
set_option maxHeartbeats 4000000 in
theorem sX7_isBit_0 {N : Nat} {z : Nat} {r : Int32} {T : zS}  {S : zS} {Sr : zS} {x0 : Int32} (hR : zR rows lm u z S Sr) (h : fX7_isBit_0 N S x0 = some (r, T)) : zw (rX7_isBit_0 N Sr x0) (sQ rows lm u z r T) := by
  unfold fX7_isBit_0 at h
  unfold rX7_isBit_0
  by_cases c : x0 = (0 : Int32)
  · have h := (if_pos c).symm.trans h
    refine zw.t c ?_
    exact sX7_isBit_9  hR h
  · have h := (if_neg c).symm.trans h
    refine zw.f c ?_
    by_cases c : x0 = (1 : Int32)
    · have h := (if_pos c).symm.trans h
      refine zw.t c ?_
      exact sX7_isBit_9  hR h
    · have h := (if_neg c).symm.trans h
      refine zw.f c ?_
      exact sX7_isBit_14  hR h
theorem sX7_isBit {N : Nat} {z : Nat} {r : Int32} {T : zS} {S : zS} {Sr : zS} {x0 : Int32} (hR : zR rows lm u z S Sr) (h : fX7_isBit N S x0 = some (r, T)) : zw (rX7_isBit N Sr x0) (sQ rows lm u z r T) := sX7_isBit_0 hR h
set_option maxRecDepth 100000 in
set_option maxHeartbeats 4000000 in
theorem sX7_withBit_0 {N : Nat} {z : Nat} {r : Int32} {T : zS}  {S : zS} {Sr : zS} {x0 : Int32} {x1 : Int32} {x2 : Int32} (hR : zR rows lm u z S Sr) (h : fX7_withBit_0 N S x0 x1 x2 = some (r, T)) : zw (rX7_withBit_0 N Sr x0 x1 x2) (sQ rows lm u z r T) := by
  unfold fX7_withBit_0 at h
  unfold rX7_withBit_0
  cases h
  exact zw.s ⟨rfl, hR⟩
theorem sX7_withBit {N : Nat} {z : Nat} {r : Int32} {T : zS} {S : zS} {Sr : zS} {x0 : Int32} {x1 : Int32} {x2 : Int32} (hR : zR rows lm u z S Sr) (h : fX7_withBit N S x0 x1 x2 = some (r, T)) : zw (rX7_withBit N Sr x0 x1 x2) (sQ rows lm u z r T) := sX7_withBit_0 hR h
set_option maxRecDepth 100000 in
set_option maxHeartbeats 4000000 in
theorem sX7_lack_15 {N : Nat} {z : Nat} {r : Int32} {T : zS}  {S : zS} {Sr : zS} (hR : zR rows lm u z S Sr) (h : fX7_lack_15 N S = some (r, T)) : zw (rX7_lack_15 N Sr) (sQ rows lm u z r T) := by
  unfold fX7_lack_15 at h
  unfold rX7_lack_15
  cases h
  exact zw.s ⟨rfl, hR⟩
set_option maxRecDepth 100000 in
set_option maxHeartbeats 4000000 in
theorem sX7_lack_0 {N : Nat} {z : Nat} {r : Int32} {T : zS}  {S : zS} {Sr : zS} {x0 : Nat} {x1 : Int32} {x2 : Int32} (hR : zR rows lm u z S Sr) (nx0 : zn rows x0) (h : fX7_lack_0 N S x0 x1 x2 = some (r, T)) : zw (rX7_lack_0 N Sr x0 x1 x2) (sQ rows lm u z r T) := by
  unfold fX7_lack_0 at h
  unfold rX7_lack_0
  obtain ⟨u1, eu1, h⟩ := zb_some h
  refine zw.e (hR.rc eu1) ?_
  obtain ⟨v3, S2, eS2, h⟩ := zb2_some h
  refine sc2 (sX7_isText hR nx0 eS2) (fun S2r hR => ?_)
  by_cases c : v3 = (0 : Int32)
  · have h := (if_pos c).symm.trans h
    refine zw.t c ?_
    exact sX7_lack_15  hR h
  · have h := (if_neg c).symm.trans h
    refine zw.f c ?_
    obtain ⟨v5, S4, eS4, h⟩ := zb2_some h
    refine sc2 (sX7_isBit hR eS4) (fun S4r hR => ?_)
    by_cases c : v5 = (0 : Int32)
    · have h := (if_pos c).symm.trans h
      refine zw.t c ?_
      exact sX7_lack_15  hR h
    · have h := (if_neg c).symm.trans h
      refine zw.f c ?_
      obtain ⟨v6, ev6, h⟩ := zb_some h
      have nv6 := hR.gn (by decide) ev6
      refine zw.e (hR.gr (by decide) ev6) ?_
      obtain ⟨v7, ev7, h⟩ := zb_some h
      refine zw.e (hR.gi (by decide) ev7) ?_
      obtain ⟨v8, ev8⟩ : ∃ y : Int32, y = ((zush v7 x1) &&& (1 : Int32)) := ⟨_, rfl⟩
      have h := zlet_at ev8 h
      refine zw_let ev8 ?_
      obtain ⟨v9, ev9, h⟩ := zb_some h
      have nv9 := hR.gn (by decide) ev9
      refine zw.e (hR.gr (by decide) ev9) ?_
      obtain ⟨v10, ev10, h⟩ := zb_some h
      have nv10 := hR.gn (by decide) ev10
      refine zw.e (hR.gr (by decide) ev10) ?_
      obtain ⟨v11, ev11, h⟩ := zb_some h
      refine zw.e (hR.gi (by decide) ev11) ?_
      obtain ⟨v13, S12, eS12, h⟩ := zb2_some h
      refine sc2 (sX7_withBit hR eS12) (fun S12r hR => ?_)
      obtain ⟨S14, eS14, h⟩ := zb_some h
      obtain ⟨S14r, qS14, hR⟩ := hR.pi (by decide) eS14
      refine zw.e qS14 ?_
      cases h
      exact zw.s ⟨rfl, hR⟩
theorem sX7_lack {N : Nat} {z : Nat} {r : Int32} {T : zS} {S : zS} {Sr : zS} {x0 : Nat} {x1 : Int32} {x2 : Int32} (hR : zR rows lm u z S Sr) (nx0 : zn rows x0) (h : fX7_lack N S x0 x1 x2 = some (r, T)) : zw (rX7_lack N Sr x0 x1 x2) (sQ rows lm u z r T) := sX7_lack_0 hR nx0 h
set_option maxRecDepth 100000 in
set_option maxHeartbeats 4000000 in
theorem sX7_isRoom_15 {N : Nat} {z : Nat} {r : Int32} {T : zS}  {S : zS} {Sr : zS} {y0 : Int32} (hR : zR rows lm u z S Sr) (h : fX7_isRoom_15 N S y0 = some (r, T)) : zw (rX7_isRoom_15 N Sr y0) (sQ rows lm u z r T) := by
  unfold fX7_isRoom_15 at h
  unfold rX7_isRoom_15
  cases h
  exact zw.s ⟨rfl, hR⟩
set_option maxRecDepth 100000 in
set_option maxHeartbeats 4000000 in
theorem sX7_isRoom_14 {N : Nat} {z : Nat} {r : Int32} {T : zS}  {S : zS} {Sr : zS} (hR : zR rows lm u z S Sr) (h : fX7_isRoom_14 N S = some (r, T)) : zw (rX7_isRoom_14 N Sr) (sQ rows lm u z r T) := by
  unfold fX7_isRoom_14 at h
  unfold rX7_isRoom_14
  exact sX7_isRoom_15  hR h
set_option maxRecDepth 100000 in
set_option maxHeartbeats 4000000 in
theorem sX7_isRoom_0 {N : Nat} {z : Nat} {r : Int32} {T : zS}  {S : zS} {Sr : zS} {x0 : Int32} (hR : zR rows lm u z S Sr) (h : fX7_isRoom_0 N S x0 = some (r, T)) : zw (rX7_isRoom_0 N Sr x0) (sQ rows lm u z r T) := by
  unfold fX7_isRoom_0 at h
  unfold rX7_isRoom_0
  by_cases c : x0 < (0 : Int32)
  · have h := (if_pos c).symm.trans h
    refine zw.t c ?_
    exact sX7_isRoom_14  hR h
  · have h := (if_neg c).symm.trans h
    refine zw.f c ?_
    by_cases c : (8 : Int32) ≤ x0
    · have h := (if_pos c).symm.trans h
      refine zw.t c ?_
      exact sX7_isRoom_14  hR h
    · have h := (if_neg c).symm.trans h
      refine zw.f c ?_
      exact sX7_isRoom_15  hR h
theorem sX7_isRoom {N : Nat} {z : Nat} {r : Int32} {T : zS} {S : zS} {Sr : zS} {x0 : Int32} (hR : zR rows lm u z S Sr) (h : fX7_isRoom N S x0 = some (r, T)) : zw (rX7_isRoom N Sr x0) (sQ rows lm u z r T) := sX7_isRoom_0 hR h
set_option maxRecDepth 100000 in
set_option maxHeartbeats 4000000 in
theorem sX7_isWord_15 {N : Nat} {z : Nat} {r : Int32} {T : zS}  {S : zS} {Sr : zS} {y0 : Int32} (hR : zR rows lm u z S Sr) (h : fX7_isWord_15 N S y0 = some (r, T)) : zw (rX7_isWord_15 N Sr y0) (sQ rows lm u z r T) := by
  unfold fX7_isWord_15 at h
  unfold rX7_isWord_15
  cases h
  exact zw.s ⟨rfl, hR⟩
set_option maxRecDepth 100000 in
set_option maxHeartbeats 4000000 in
theorem sX7_isWord_14 {N : Nat} {z : Nat} {r : Int32} {T : zS}  {S : zS} {Sr : zS} (hR : zR rows lm u z S Sr) (h : fX7_isWord_14 N S = some (r, T)) : zw (rX7_isWord_14 N Sr) (sQ rows lm u z r T) := by
  unfold fX7_isWord_14 at h
  unfold rX7_isWord_14
  exact sX7_isWord_15  hR h
set_option maxRecDepth 100000 in
set_option maxHeartbeats 4000000 in
theorem sX7_isWord_0 {N : Nat} {z : Nat} {r : Int32} {T : zS}  {S : zS} {Sr : zS} {x0 : Int32} (hR : zR rows lm u z S Sr) (h : fX7_isWord_0 N S x0 = some (r, T)) : zw (rX7_isWord_0 N Sr x0) (sQ rows lm u z r T) := by
  unfold fX7_isWord_0 at h
  unfold rX7_isWord_0
  by_cases c : x0 < (0 : Int32)
  · have h := (if_pos c).symm.trans h
    refine zw.t c ?_
    exact sX7_isWord_14  hR h
  · have h := (if_neg c).symm.trans h
    refine zw.f c ?_
    by_cases c : (8 : Int32) ≤ x0
    · have h := (if_pos c).symm.trans h
      refine zw.t c ?_
      exact sX7_isWord_14  hR h
    · have h := (if_neg c).symm.trans h
      refine zw.f c ?_
      exact sX7_isWord_15  hR h
theorem sX7_isWord {N : Nat} {z : Nat} {r : Int32} {T : zS} {S : zS} {Sr : zS} {x0 : Int32} (hR : zR rows lm u z S Sr) (h : fX7_isWord N S x0 = some (r, T)) : zw (rX7_isWord N Sr x0) (sQ rows lm u z r T) := sX7_isWord_0 hR h
set_option maxRecDepth 100000 in
set_option maxHeartbeats 4000000 in
theorem sX7_word_25 {N : Nat} {z : Nat} {r : Int32} {T : zS}  {S : zS} {Sr : zS} (hR : zR rows lm u z S Sr) (h : fX7_word_25 N S = some (r, T)) : zw (rX7_word_25 N Sr) (sQ rows lm u z r T) := by
  unfold fX7_word_25 at h
  unfold rX7_word_25
  cases h
  exact zw.s ⟨rfl, hR⟩
set_option maxRecDepth 100000 in
set_option maxHeartbeats 4000000 in
theorem sX7_word_0 {N : Nat} {z : Nat} {r : Int32} {T : zS}  {S : zS} {Sr : zS} {x0 : Nat} {x1 : Int32} {x2 : Int32} {x3 : Int32} (hR : zR rows lm u z S Sr) (nx0 : zn rows x0) (h : fX7_word_0 N S x0 x1 x2 x3 = some (r, T)) : zw (rX7_word_0 N Sr x0 x1 x2 x3) (sQ rows lm u z r T) := by
  unfold fX7_word_0 at h
  unfold rX7_word_0
  obtain ⟨v2, S1, eS1, h⟩ := zb2_some h
  refine sc2 (sX7_isRoom hR eS1) (fun S1r hR => ?_)
  by_cases c : v2 = (0 : Int32)
  · have h := (if_pos c).symm.trans h
    refine zw.t c ?_
    exact sX7_word_25  hR h
  · have h := (if_neg c).symm.trans h
    refine zw.f c ?_
    obtain ⟨v4, S3, eS3, h⟩ := zb2_some h
    refine sc2 (sX7_isWord hR eS3) (fun S3r hR => ?_)
    by_cases c : v4 = (0 : Int32)
    · have h := (if_pos c).symm.trans h
      refine zw.t c ?_
      exact sX7_word_25  hR h
    · have h := (if_neg c).symm.trans h
      refine zw.f c ?_
      by_cases c : x3 < (0 : Int32)
      · have h := (if_pos c).symm.trans h
        refine zw.t c ?_
        exact sX7_word_25  hR h
      · have h := (if_neg c).symm.trans h
        refine zw.f c ?_
        by_cases c : x3 ≤ (255 : Int32)
        · have h := (if_pos c).symm.trans h
          refine zw.t c ?_
          obtain ⟨v5, ev5, h⟩ := zb_some h
          have nv5 := hR.gn (by decide) ev5
          refine zw.e (hR.gr (by decide) ev5) ?_
          obtain ⟨v6, ev6, h⟩ := zb_some h
          have nv6 := hR.an (by decide) ev6
          refine zw.e (hR.al (by decide) ev6) ?_
          obtain ⟨v7, ev7, h⟩ := zb_some h
          refine zw.e (hR.il nv6 ev7) ?_
          obtain ⟨v8, ev8, h⟩ := zb_some h
          have nv8 := hR.gn (by decide) ev8
          refine zw.e (hR.gr (by decide) ev8) ?_
          obtain ⟨v9, ev9, h⟩ := zb_some h
          have nv9 := hR.an (by decide) ev9
          refine zw.e (hR.al (by decide) ev9) ?_
          obtain ⟨S10, eS10, h⟩ := zb_some h
          obtain ⟨S10r, qS10, hR⟩ := hR.is nv9 eS10
          refine zw.e qS10 ?_
          cases h
          exact zw.s ⟨rfl, hR⟩
        · have h := (if_neg c).symm.trans h
          refine zw.f c ?_
          exact sX7_word_25  hR h
theorem sX7_word {N : Nat} {z : Nat} {r : Int32} {T : zS} {S : zS} {Sr : zS} {x0 : Nat} {x1 : Int32} {x2 : Int32} {x3 : Int32} (hR : zR rows lm u z S Sr) (nx0 : zn rows x0) (h : fX7_word N S x0 x1 x2 x3 = some (r, T)) : zw (rX7_word N Sr x0 x1 x2 x3) (sQ rows lm u z r T) := sX7_word_0 hR nx0 h
set_option maxRecDepth 100000 in
set_option maxHeartbeats 4000000 in
theorem sX7_areRooms_19 {N : Nat} {z : Nat} {r : Int32} {T : zS}  {S : zS} {Sr : zS} {y0 : Int32} (hR : zR rows lm u z S Sr) (h : fX7_areRooms_19 N S y0 = some (r, T)) : zw (rX7_areRooms_19 N Sr y0) (sQ rows lm u z r T) := by
  unfold fX7_areRooms_19 at h
  unfold rX7_areRooms_19
  cases h
  exact zw.s ⟨rfl, hR⟩
set_option maxRecDepth 100000 in
set_option maxHeartbeats 4000000 in
theorem sX7_areRooms_18 {N : Nat} {z : Nat} {r : Int32} {T : zS}  {S : zS} {Sr : zS} (hR : zR rows lm u z S Sr) (h : fX7_areRooms_18 N S = some (r, T)) : zw (rX7_areRooms_18 N Sr) (sQ rows lm u z r T) := by
  unfold fX7_areRooms_18 at h
  unfold rX7_areRooms_18
  exact sX7_areRooms_19  hR h
set_option maxRecDepth 100000 in
set_option maxHeartbeats 4000000 in
theorem sX7_areRooms_0 {N : Nat} {z : Nat} {r : Int32} {T : zS}  {S : zS} {Sr : zS} {x0 : Int32} {x1 : Int32} (hR : zR rows lm u z S Sr) (h : fX7_areRooms_0 N S x0 x1 = some (r, T)) : zw (rX7_areRooms_0 N Sr x0 x1) (sQ rows lm u z r T) := by
  unfold fX7_areRooms_0 at h
  unfold rX7_areRooms_0
  obtain ⟨v2, S1, eS1, h⟩ := zb2_some h
  refine sc2 (sX7_isRoom hR eS1) (fun S1r hR => ?_)
  by_cases c : v2 = (0 : Int32)
  · have h := (if_pos c).symm.trans h
    refine zw.t c ?_
    exact sX7_areRooms_18  hR h
  · have h := (if_neg c).symm.trans h
    refine zw.f c ?_
    obtain ⟨v4, S3, eS3, h⟩ := zb2_some h
    refine sc2 (sX7_isRoom hR eS3) (fun S3r hR => ?_)
    by_cases c : v4 = (0 : Int32)
    · have h := (if_pos c).symm.trans h
      refine zw.t c ?_
      exact sX7_areRooms_18  hR h
    · have h := (if_neg c).symm.trans h
      refine zw.f c ?_
      exact sX7_areRooms_19  hR h
theorem sX7_areRooms {N : Nat} {z : Nat} {r : Int32} {T : zS} {S : zS} {Sr : zS} {x0 : Int32} {x1 : Int32} (hR : zR rows lm u z S Sr) (h : fX7_areRooms N S x0 x1 = some (r, T)) : zw (rX7_areRooms N Sr x0 x1) (sQ rows lm u z r T) := sX7_areRooms_0 hR h
set_option maxRecDepth 100000 in
set_option maxHeartbeats 4000000 in
theorem sX7_unlikeWords_40 {N : Nat} {z : Nat} {r : Int32} {T : zS} {Kv5 : zS × Nat × Int32 × Int32 × Int32 × Int32 → Option (Int32 × zS)} {K5 : zS × Nat × Int32 × Int32 × Int32 × Int32 → Option (Int32 × zS)} (hK5 : ∀ (S : zS) (Sr : zS) (x0 : Nat) (x1 : Int32) (x2 : Int32) (x3 : Int32) (x4 : Int32), zR rows lm u z S Sr → zn rows x0 → Kv5 (S, x0, x1, x2, x3, x4) = some (r, T) → zw (K5 (Sr, x0, x1, x2, x3, x4)) (sQ rows lm u z r T)) {S : zS} {Sr : zS} {x0 : Nat} {x1 : Int32} {x2 : Int32} {x3 : Int32} {x4 : Int32} (hR : zR rows lm u z S Sr) (nx0 : zn rows x0) (h : fX7_unlikeWords_40 N Kv5 S x0 x1 x2 x3 x4 = some (r, T)) : zw (rX7_unlikeWords_40 N K5 Sr x0 x1 x2 x3 x4) (sQ rows lm u z r T) := by
  unfold fX7_unlikeWords_40 at h
  unfold rX7_unlikeWords_40
  exact hK5 _ _ _ _ _ _ _ hR nx0 h
set_option maxRecDepth 100000 in
set_option maxHeartbeats 4000000 in
theorem sX7_unlikeWords_5 {N : Nat} {z : Nat} {r : Int32} {T : zS} {Kv5 : zS × Nat × Int32 × Int32 × Int32 × Int32 → Option (Int32 × zS)} {K5 : zS × Nat × Int32 × Int32 × Int32 × Int32 → Option (Int32 × zS)} (hK5 : ∀ (S : zS) (Sr : zS) (x0 : Nat) (x1 : Int32) (x2 : Int32) (x3 : Int32) (x4 : Int32), zR rows lm u z S Sr → zn rows x0 → Kv5 (S, x0, x1, x2, x3, x4) = some (r, T) → zw (K5 (Sr, x0, x1, x2, x3, x4)) (sQ rows lm u z r T)) {S : zS} {Sr : zS} {x0 : Nat} {x1 : Int32} {x2 : Int32} {x3 : Int32} {x4 : Int32} (hR : zR rows lm u z S Sr) (nx0 : zn rows x0) (h : fX7_unlikeWords_5 N Kv5 S x0 x1 x2 x3 x4 = some (r, T)) : zw (rX7_unlikeWords_5 N K5 Sr x0 x1 x2 x3 x4) (sQ rows lm u z r T) := by
  unfold fX7_unlikeWords_5 at h
  unfold rX7_unlikeWords_5
  by_cases c : (8 : Int32) ≤ x4
  · have h := (if_pos c).symm.trans h
    refine zw.t c ?_
    cases h
    exact zw.s ⟨rfl, hR⟩
  · have h := (if_neg c).symm.trans h
    refine zw.f c ?_
    obtain ⟨v1, ev1, h⟩ := zb_some h
    have nv1 := hR.gn (by decide) ev1
    refine zw.e (hR.gr (by decide) ev1) ?_
    obtain ⟨v2, ev2, h⟩ := zb_some h
    have nv2 := hR.an (by decide) ev2
    refine zw.e (hR.al (by decide) ev2) ?_
    obtain ⟨v3, ev3, h⟩ := zb_some h
    refine zw.e (hR.il nv2 ev3) ?_
    obtain ⟨v4, ev4, h⟩ := zb_some h
    have nv4 := hR.gn (by decide) ev4
    refine zw.e (hR.gr (by decide) ev4) ?_
    obtain ⟨v5, ev5, h⟩ := zb_some h
    have nv5 := hR.an (by decide) ev5
    refine zw.e (hR.al (by decide) ev5) ?_
    obtain ⟨v6, ev6, h⟩ := zb_some h
    refine zw.e (hR.il nv5 ev6) ?_
    by_cases c : v3 = v6
    · have h := (if_pos c).symm.trans h
      refine zw.t c ?_
      exact sX7_unlikeWords_40 hK5  hR nx0 h
    · have h := (if_neg c).symm.trans h
      refine zw.f c ?_
      obtain ⟨v7, ev7⟩ : ∃ y : Int32, y = (x3 ||| ((1 : Int32) <<< (x4 &&& 31))) := ⟨_, rfl⟩
      have h := zlet_at ev7 h
      refine zw_let ev7 ?_
      exact sX7_unlikeWords_40 hK5  hR nx0 h
set_option maxRecDepth 100000 in
set_option maxHeartbeats 4000000 in
theorem tX7_unlikeWords_5 {N : Nat} {z : Nat} {r : Int32} {T : zS}  {S : zS} {Sr : zS} {x0 : Nat} {x1 : Int32} {x2 : Int32} {x3 : Int32} {x4 : Int32} (hR : zR rows lm u z S Sr) (nx0 : zn rows x0) (h : lX7_unlikeWords_5 N S x0 x1 x2 x3 x4 = some (r, T)) : zw (rlX7_unlikeWords_5 N Sr x0 x1 x2 x3 x4) (sQ rows lm u z r T) := by
  unfold lX7_unlikeWords_5 at h
  unfold rlX7_unlikeWords_5
  refine zl_sim (I := fun y y' => ∃ (S : zS) (Sr : zS) (x0 : Nat) (x1 : Int32) (x2 : Int32) (x3 : Int32) (x4 : Int32), y = (S, x0, x1, x2, x3, x4) ∧ y' = (Sr, x0, x1, x2, x3, x4) ∧ zR rows lm u z S Sr ∧ zn rows x0) (Q := fun y' => (sQ rows lm u z r T)) ?_ N _ _ ⟨S, Sr, x0, x1, x2, x3, x4, rfl, rfl, hR, nx0⟩ h
  rintro K K' hK y y' ⟨S, Sr, x0, x1, x2, x3, x4, rfl, rfl, hR, nx0⟩ h
  exact sX7_unlikeWords_5 (fun S Sr x0 x1 x2 x3 x4 hR nx0 h => hK _ _ ⟨S, Sr, x0, x1, x2, x3, x4, rfl, rfl, hR, nx0⟩ h) hR nx0 h
set_option maxRecDepth 100000 in
set_option maxHeartbeats 4000000 in
theorem sX7_unlikeWords_0 {N : Nat} {z : Nat} {r : Int32} {T : zS}  {S : zS} {Sr : zS} {x0 : Nat} {x1 : Int32} {x2 : Int32} (hR : zR rows lm u z S Sr) (nx0 : zn rows x0) (h : fX7_unlikeWords_0 N S x0 x1 x2 = some (r, T)) : zw (rX7_unlikeWords_0 N Sr x0 x1 x2) (sQ rows lm u z r T) := by
  unfold fX7_unlikeWords_0 at h
  unfold rX7_unlikeWords_0
  exact tX7_unlikeWords_5  hR nx0 h
theorem sX7_unlikeWords {N : Nat} {z : Nat} {r : Int32} {T : zS} {S : zS} {Sr : zS} {x0 : Nat} {x1 : Int32} {x2 : Int32} (hR : zR rows lm u z S Sr) (nx0 : zn rows x0) (h : fX7_unlikeWords N S x0 x1 x2 = some (r, T)) : zw (rX7_unlikeWords N Sr x0 x1 x2) (sQ rows lm u z r T) := sX7_unlikeWords_0 hR nx0 h
set_option maxRecDepth 100000 in
set_option maxHeartbeats 4000000 in
theorem sX7_copy_0 {N : Nat} {z : Nat} {r : Int32} {T : zS}  {S : zS} {Sr : zS} {x0 : Nat} {x1 : Int32} {x2 : Int32} (hR : zR rows lm u z S Sr) (nx0 : zn rows x0) (h : fX7_copy_0 N S x0 x1 x2 = some (r, T)) : zw (rX7_copy_0 N Sr x0 x1 x2) (sQ rows lm u z r T) := by
  unfold fX7_copy_0 at h
  unfold rX7_copy_0
  obtain ⟨v2, S1, eS1, h⟩ := zb2_some h
  refine sc2 (sX7_areRooms hR eS1) (fun S1r hR => ?_)
  by_cases c : v2 = (0 : Int32)
  · have h := (if_pos c).symm.trans h
    refine zw.t c ?_
    cases h
    exact zw.s ⟨rfl, hR⟩
  · have h := (if_neg c).symm.trans h
    refine zw.f c ?_
    obtain ⟨u3, eu3, h⟩ := zb_some h
    refine zw.e (hR.rc eu3) ?_
    obtain ⟨v5, S4, eS4, h⟩ := zb2_some h
    refine sc2 (sX7_unlikeWords hR nx0 eS4) (fun S4r hR => ?_)
    obtain ⟨v7, S6, eS6, h⟩ := zb2_some h
    refine sc2 (sJ6_bitCount_0f7a4 hR eS6) (fun S6r hR => ?_)
    obtain ⟨v8, ev8, h⟩ := zb_some h
    have nv8 := hR.gn (by decide) ev8
    refine zw.e (hR.gr (by decide) ev8) ?_
    obtain ⟨v9, ev9, h⟩ := zb_some h
    have nv9 := hR.an (by decide) ev9
    refine zw.e (hR.al (by decide) ev9) ?_
    obtain ⟨v10, ev10, h⟩ := zb_some h
    have nv10 := hR.gn (by decide) ev10
    refine zw.e (hR.gr (by decide) ev10) ?_
    obtain ⟨v11, ev11, h⟩ := zb_some h
    have nv11 := hR.an (by decide) ev11
    refine zw.e (hR.al (by decide) ev11) ?_
    obtain ⟨S12, eS12, h⟩ := zb_some h
    obtain ⟨S12r, qS12, hR⟩ := hR.cp nv9 nv11 eS12
    refine zw.e qS12 ?_
    cases h
    exact zw.s ⟨rfl, hR⟩
theorem sX7_copy {N : Nat} {z : Nat} {r : Int32} {T : zS} {S : zS} {Sr : zS} {x0 : Nat} {x1 : Int32} {x2 : Int32} (hR : zR rows lm u z S Sr) (nx0 : zn rows x0) (h : fX7_copy N S x0 x1 x2 = some (r, T)) : zw (rX7_copy N Sr x0 x1 x2) (sQ rows lm u z r T) := sX7_copy_0 hR nx0 h
set_option maxRecDepth 100000 in
set_option maxHeartbeats 4000000 in
theorem sX7_step_31 {N : Nat} {z : Nat} {r : Int32} {T : zS}  {S : zS} {Sr : zS} (hR : zR rows lm u z S Sr) (h : fX7_step_31 N S = some (r, T)) : zw (rX7_step_31 N Sr) (sQ rows lm u z r T) := by
  unfold fX7_step_31 at h
  unfold rX7_step_31
  cases h
  exact zw.s ⟨rfl, hR⟩
set_option maxRecDepth 100000 in
set_option maxHeartbeats 4000000 in
theorem sX7_step_0 {N : Nat} {z : Nat} {r : Int32} {T : zS}  {S : zS} {Sr : zS} {x0 : Nat} {x1 : Int32} {x2 : Int32} {x3 : Int32} (hR : zR rows lm u z S Sr) (nx0 : zn rows x0) (h : fX7_step_0 N S x0 x1 x2 x3 = some (r, T)) : zw (rX7_step_0 N Sr x0 x1 x2 x3) (sQ rows lm u z r T) := by
  unfold fX7_step_0 at h
  unfold rX7_step_0
  by_cases c : x1 < (0 : Int32)
  · have h := (if_pos c).symm.trans h
    refine zw.t c ?_
    exact sX7_step_31  hR h
  · have h := (if_neg c).symm.trans h
    refine zw.f c ?_
    by_cases c : (7 : Int32) < x1
    · have h := (if_pos c).symm.trans h
      refine zw.t c ?_
      exact sX7_step_31  hR h
    · have h := (if_neg c).symm.trans h
      refine zw.f c ?_
      by_cases c : x2 < (0 : Int32)
      · have h := (if_pos c).symm.trans h
        refine zw.t c ?_
        exact sX7_step_31  hR h
      · have h := (if_neg c).symm.trans h
        refine zw.f c ?_
        by_cases c : (255 : Int32) < x2
        · have h := (if_pos c).symm.trans h
          refine zw.t c ?_
          exact sX7_step_31  hR h
        · have h := (if_neg c).symm.trans h
          refine zw.f c ?_
          by_cases c : x3 < (0 : Int32)
          · have h := (if_pos c).symm.trans h
            refine zw.t c ?_
            exact sX7_step_31  hR h
          · have h := (if_neg c).symm.trans h
            refine zw.f c ?_
            by_cases c : x3 < (8 : Int32)
            · have h := (if_pos c).symm.trans h
              refine zw.t c ?_
              obtain ⟨v1, ev1, h⟩ := zb_some h
              have nv1 := hR.gn (by decide) ev1
              refine zw.e (hR.gr (by decide) ev1) ?_
              obtain ⟨v2, ev2, h⟩ := zb_some h
              refine zw.e (hR.gi (by decide) ev2) ?_
              by_cases c : v2 < (24 : Int32)
              · have h := (if_pos c).symm.trans h
                refine zw.t c ?_
                obtain ⟨v3, ev3, h⟩ := zb_some h
                have nv3 := hR.gn (by decide) ev3
                refine zw.e (hR.gr (by decide) ev3) ?_
                obtain ⟨u4, eu4, h⟩ := zb_some h
                refine zw.e (hR.rc eu4) ?_
                obtain ⟨v6, S5, eS5, h⟩ := zb2_some h
                refine sc2 (sX4_addStep hR nv3 eS5) (fun S5r hR => ?_)
                cases h
                exact zw.s ⟨rfl, hR⟩
              · have h := (if_neg c).symm.trans h
                refine zw.f c ?_
                cases h
                exact zw.s ⟨rfl, hR⟩
            · have h := (if_neg c).symm.trans h
              refine zw.f c ?_
              exact sX7_step_31  hR h
theorem sX7_step {N : Nat} {z : Nat} {r : Int32} {T : zS} {S : zS} {Sr : zS} {x0 : Nat} {x1 : Int32} {x2 : Int32} {x3 : Int32} (hR : zR rows lm u z S Sr) (nx0 : zn rows x0) (h : fX7_step N S x0 x1 x2 x3 = some (r, T)) : zw (rX7_step N Sr x0 x1 x2 x3) (sQ rows lm u z r T) := sX7_step_0 hR nx0 h
set_option maxRecDepth 100000 in
set_option maxHeartbeats 4000000 in
theorem sX7_isInputFor_27 {N : Nat} {z : Nat} {r : Int32} {T : zS}  {S : zS} {Sr : zS} {y0 : Int32} (hR : zR rows lm u z S Sr) (h : fX7_isInputFor_27 N S y0 = some (r, T)) : zw (rX7_isInputFor_27 N Sr y0) (sQ rows lm u z r T) := by
  unfold fX7_isInputFor_27 at h
  unfold rX7_isInputFor_27
  cases h
  exact zw.s ⟨rfl, hR⟩
set_option maxRecDepth 100000 in
set_option maxHeartbeats 4000000 in
theorem sX7_isInputFor_26 {N : Nat} {z : Nat} {r : Int32} {T : zS}  {S : zS} {Sr : zS} (hR : zR rows lm u z S Sr) (h : fX7_isInputFor_26 N S = some (r, T)) : zw (rX7_isInputFor_26 N Sr) (sQ rows lm u z r T) := by
  unfold fX7_isInputFor_26 at h
  unfold rX7_isInputFor_26
  exact sX7_isInputFor_27  hR h
set_option maxRecDepth 100000 in
set_option maxHeartbeats 4000000 in
theorem sX7_isInputFor_22 {N : Nat} {z : Nat} {r : Int32} {T : zS}  {S : zS} {Sr : zS} (hR : zR rows lm u z S Sr) (h : fX7_isInputFor_22 N S = some (r, T)) : zw (rX7_isInputFor_22 N Sr) (sQ rows lm u z r T) := by
  unfold fX7_isInputFor_22 at h
  unfold rX7_isInputFor_22
  exact sX7_isInputFor_27  hR h
set_option maxRecDepth 100000 in
set_option maxHeartbeats 4000000 in
theorem sX7_isInputFor_0 {N : Nat} {z : Nat} {r : Int32} {T : zS}  {S : zS} {Sr : zS} {x0 : Nat} {x1 : Int32} {x2 : Int32} (hR : zR rows lm u z S Sr) (nx0 : zn rows x0) (h : fX7_isInputFor_0 N S x0 x1 x2 = some (r, T)) : zw (rX7_isInputFor_0 N Sr x0 x1 x2) (sQ rows lm u z r T) := by
  unfold fX7_isInputFor_0 at h
  unfold rX7_isInputFor_0
  obtain ⟨u1, eu1, h⟩ := zb_some h
  refine zw.e (hR.rc eu1) ?_
  obtain ⟨v3, S2, eS2, h⟩ := zb2_some h
  refine sc2 (sX7_isText hR nx0 eS2) (fun S2r hR => ?_)
  by_cases c : v3 = (0 : Int32)
  · have h := (if_pos c).symm.trans h
    refine zw.t c ?_
    by_cases c : x2 < (100 : Int32)
    · have h := (if_pos c).symm.trans h
      refine zw.t c ?_
      exact sX7_isInputFor_26  hR h
    · have h := (if_neg c).symm.trans h
      refine zw.f c ?_
      by_cases c : ((100 : Int32) + x1) ≤ x2
      · have h := (if_pos c).symm.trans h
        refine zw.t c ?_
        exact sX7_isInputFor_26  hR h
      · have h := (if_neg c).symm.trans h
        refine zw.f c ?_
        exact sX7_isInputFor_22  hR h
  · have h := (if_neg c).symm.trans h
    refine zw.f c ?_
    exact sX7_isInputFor_22  hR h
theorem sX7_isInputFor {N : Nat} {z : Nat} {r : Int32} {T : zS} {S : zS} {Sr : zS} {x0 : Nat} {x1 : Int32} {x2 : Int32} (hR : zR rows lm u z S Sr) (nx0 : zn rows x0) (h : fX7_isInputFor N S x0 x1 x2 = some (r, T)) : zw (rX7_isInputFor N Sr x0 x1 x2) (sQ rows lm u z r T) := sX7_isInputFor_0 hR nx0 h
set_option maxRecDepth 100000 in
set_option maxHeartbeats 4000000 in
theorem sX7_isStep_20 {N : Nat} {z : Nat} {r : Int32} {T : zS}  {S : zS} {Sr : zS} {y0 : Int32} (hR : zR rows lm u z S Sr) (h : fX7_isStep_20 N S y0 = some (r, T)) : zw (rX7_isStep_20 N Sr y0) (sQ rows lm u z r T) := by
  unfold fX7_isStep_20 at h
  unfold rX7_isStep_20
  cases h
  exact zw.s ⟨rfl, hR⟩
set_option maxRecDepth 100000 in
set_option maxHeartbeats 4000000 in
theorem sX7_isStep_19 {N : Nat} {z : Nat} {r : Int32} {T : zS}  {S : zS} {Sr : zS} (hR : zR rows lm u z S Sr) (h : fX7_isStep_19 N S = some (r, T)) : zw (rX7_isStep_19 N Sr) (sQ rows lm u z r T) := by
  unfold fX7_isStep_19 at h
  unfold rX7_isStep_19
  exact sX7_isStep_20  hR h
set_option maxRecDepth 100000 in
set_option maxHeartbeats 4000000 in
theorem sX7_isStep_0 {N : Nat} {z : Nat} {r : Int32} {T : zS}  {S : zS} {Sr : zS} {x0 : Nat} {x1 : Int32} (hR : zR rows lm u z S Sr) (nx0 : zn rows x0) (h : fX7_isStep_0 N S x0 x1 = some (r, T)) : zw (rX7_isStep_0 N Sr x0 x1) (sQ rows lm u z r T) := by
  unfold fX7_isStep_0 at h
  unfold rX7_isStep_0
  by_cases c : x1 < (0 : Int32)
  · have h := (if_pos c).symm.trans h
    refine zw.t c ?_
    exact sX7_isStep_19  hR h
  · have h := (if_neg c).symm.trans h
    refine zw.f c ?_
    obtain ⟨v1, ev1, h⟩ := zb_some h
    have nv1 := hR.gn (by decide) ev1
    refine zw.e (hR.gr (by decide) ev1) ?_
    obtain ⟨v2, ev2, h⟩ := zb_some h
    refine zw.e (hR.gi (by decide) ev2) ?_
    by_cases c : v2 ≤ x1
    · have h := (if_pos c).symm.trans h
      refine zw.t c ?_
      exact sX7_isStep_19  hR h
    · have h := (if_neg c).symm.trans h
      refine zw.f c ?_
      exact sX7_isStep_20  hR h
theorem sX7_isStep {N : Nat} {z : Nat} {r : Int32} {T : zS} {S : zS} {Sr : zS} {x0 : Nat} {x1 : Int32} (hR : zR rows lm u z S Sr) (nx0 : zn rows x0) (h : fX7_isStep N S x0 x1 = some (r, T)) : zw (rX7_isStep N Sr x0 x1) (sQ rows lm u z r T) := sX7_isStep_0 hR nx0 h
set_option maxRecDepth 100000 in
set_option maxHeartbeats 4000000 in
theorem sX7_need_17 {N : Nat} {z : Nat} {r : Int32} {T : zS}  {S : zS} {Sr : zS} (hR : zR rows lm u z S Sr) (h : fX7_need_17 N S = some (r, T)) : zw (rX7_need_17 N Sr) (sQ rows lm u z r T) := by
  unfold fX7_need_17 at h
  unfold rX7_need_17
  cases h
  exact zw.s ⟨rfl, hR⟩
set_option maxRecDepth 100000 in
set_option maxHeartbeats 4000000 in
theorem sX7_need_0 {N : Nat} {z : Nat} {r : Int32} {T : zS}  {S : zS} {Sr : zS} {x0 : Nat} {x1 : Int32} {x2 : Int32} (hR : zR rows lm u z S Sr) (nx0 : zn rows x0) (h : fX7_need_0 N S x0 x1 x2 = some (r, T)) : zw (rX7_need_0 N Sr x0 x1 x2) (sQ rows lm u z r T) := by
  unfold fX7_need_0 at h
  unfold rX7_need_0
  obtain ⟨u1, eu1, h⟩ := zb_some h
  refine zw.e (hR.rc eu1) ?_
  obtain ⟨v3, S2, eS2, h⟩ := zb2_some h
  refine sc2 (sX7_isStep hR nx0 eS2) (fun S2r hR => ?_)
  by_cases c : v3 = (0 : Int32)
  · have h := (if_pos c).symm.trans h
    refine zw.t c ?_
    exact sX7_need_17  hR h
  · have h := (if_neg c).symm.trans h
    refine zw.f c ?_
    obtain ⟨u4, eu4, h⟩ := zb_some h
    refine zw.e (hR.rc eu4) ?_
    obtain ⟨v6, S5, eS5, h⟩ := zb2_some h
    refine sc2 (sX7_isInputFor hR nx0 eS5) (fun S5r hR => ?_)
    by_cases c : v6 = (0 : Int32)
    · have h := (if_pos c).symm.trans h
      refine zw.t c ?_
      exact sX7_need_17  hR h
    · have h := (if_neg c).symm.trans h
      refine zw.f c ?_
      obtain ⟨v7, ev7, h⟩ := zb_some h
      have nv7 := hR.gn (by decide) ev7
      refine zw.e (hR.gr (by decide) ev7) ?_
      obtain ⟨v8, ev8, h⟩ := zb_some h
      refine zw.e (hR.gi (by decide) ev8) ?_
      by_cases c : ((zush v8 x1) &&& (1 : Int32)) = (0 : Int32)
      · have h := (if_pos c).symm.trans h
        refine zw.t c ?_
        obtain ⟨v9, ev9, h⟩ := zb_some h
        have nv9 := hR.gn (by decide) ev9
        refine zw.e (hR.gr (by decide) ev9) ?_
        obtain ⟨v10, ev10, h⟩ := zb_some h
        have nv10 := hR.gn (by decide) ev10
        refine zw.e (hR.gr (by decide) ev10) ?_
        obtain ⟨v11, ev11, h⟩ := zb_some h
        refine zw.e (hR.il nv10 ev11) ?_
        by_cases c : v11 < (4 : Int32)
        · have h := (if_pos c).symm.trans h
          refine zw.t c ?_
          obtain ⟨v12, ev12, h⟩ := zb_some h
          have nv12 := hR.gn (by decide) ev12
          refine zw.e (hR.gr (by decide) ev12) ?_
          obtain ⟨u13, eu13, h⟩ := zb_some h
          refine zw.e (hR.rc eu13) ?_
          obtain ⟨v15, S14, eS14, h⟩ := zb2_some h
          refine sc2 (sX4_addInput hR nv12 eS14) (fun S14r hR => ?_)
          cases h
          exact zw.s ⟨rfl, hR⟩
        · have h := (if_neg c).symm.trans h
          refine zw.f c ?_
          cases h
          exact zw.s ⟨rfl, hR⟩
      · have h := (if_neg c).symm.trans h
        refine zw.f c ?_
        cases h
        exact zw.s ⟨rfl, hR⟩
theorem sX7_need {N : Nat} {z : Nat} {r : Int32} {T : zS} {S : zS} {Sr : zS} {x0 : Nat} {x1 : Int32} {x2 : Int32} (hR : zR rows lm u z S Sr) (nx0 : zn rows x0) (h : fX7_need N S x0 x1 x2 = some (r, T)) : zw (rX7_need N Sr x0 x1 x2) (sQ rows lm u z r T) := sX7_need_0 hR nx0 h
set_option maxRecDepth 100000 in
set_option maxHeartbeats 4000000 in
theorem sX7_made_60 {N : Nat} {r : Int32} {T : zS}  {S : zS} {Sr : zS} {z : Nat} {y0 : Int32} (hR : zR rows lm u z S Sr) (h : fX7_made_60 N S y0 = some (r, T)) : zw (rX7_made_60 N Sr z y0) (tQ rows lm u z r T) := by
  unfold fX7_made_60 at h
  unfold rX7_made_60
  refine zgeI_w (Nat.le_refl _) ?_
  cases h
  exact zw.s ⟨rfl, Nat.le_refl _, hR⟩
set_option maxRecDepth 100000 in
set_option maxHeartbeats 4000000 in
theorem sX7_made_15 {N : Nat} {r : Int32} {T : zS}  {S : zS} {Sr : zS} {z : Nat} (hR : zR rows lm u z S Sr) (h : fX7_made_15 N S = some (r, T)) : zw (rX7_made_15 N Sr z) (tQ rows lm u z r T) := by
  unfold fX7_made_15 at h
  unfold rX7_made_15
  refine zgeI_w (Nat.le_refl _) ?_
  cases h
  exact zw.s ⟨rfl, Nat.le_refl _, hR⟩
set_option maxRecDepth 100000 in
set_option maxHeartbeats 4000000 in
theorem sX7_made_0 {N : Nat} {r : Int32} {T : zS}  {S : zS} {Sr : zS} {z : Nat} {x0 : Nat} {x1 : Int32} {x2 : Int32} (hR : zR rows lm u z S Sr) (nx0 : zn rows x0) (h : fX7_made_0 N S x0 x1 x2 = some (r, T)) : zw (rX7_made_0 N Sr z x0 x1 x2) (tQ rows lm u z r T) := by
  unfold fX7_made_0 at h
  unfold rX7_made_0
  refine zgeI_w (Nat.le_refl _) ?_
  obtain ⟨v2, S1, eS1, h⟩ := zb2_some h
  refine sc2 (sX7_isRoom hR eS1) (fun S1r hR => ?_)
  by_cases c : v2 = (0 : Int32)
  · have h := (if_pos c).symm.trans h
    refine zw.t c ?_
    exact sX7_made_15  hR h
  · have h := (if_neg c).symm.trans h
    refine zw.f c ?_
    obtain ⟨u3, eu3, h⟩ := zb_some h
    refine zw.e (hR.rc eu3) ?_
    obtain ⟨v5, S4, eS4, h⟩ := zb2_some h
    refine sc2 (sX7_isStep hR nx0 eS4) (fun S4r hR => ?_)
    by_cases c : v5 = (0 : Int32)
    · have h := (if_pos c).symm.trans h
      refine zw.t c ?_
      exact sX7_made_15  hR h
    · have h := (if_neg c).symm.trans h
      refine zw.f c ?_
      obtain ⟨v6, ev6, h⟩ := zb_some h
      have nv6 := hR.gn (by decide) ev6
      refine zw.e (hR.gr (by decide) ev6) ?_
      obtain ⟨v7, ev7, h⟩ := zb_some h
      have nv7 := hR.gn (by decide) ev7
      refine zw.e (hR.gr (by decide) ev7) ?_
      obtain ⟨v8, ev8, h⟩ := zb_some h
      have nv8 := hR.an (by decide) ev8
      refine zw.e (hR.al (by decide) ev8) ?_
      obtain ⟨u9, eu9, h⟩ := zb_some h
      refine zw.e (hR.rc eu9) ?_
      obtain ⟨S10, eS10, h⟩ := zb_some h
      refine sc2z (sX1_makeIn hR nv6 nv8 eS10) (fun S10r z11 hmz11 hR => ?_)
      refine zgeI_w hmz11 ?_
      obtain ⟨v12, ev12, h⟩ := zb_some h
      have nv12 := hR.gn (by decide) ev12
      refine zw.e (hR.gr (by decide) ev12) ?_
      obtain ⟨v13, ev13, h⟩ := zb_some h
      have nv13 := hR.gn (by decide) ev13
      refine zw.e (hR.gr (by decide) ev13) ?_
      obtain ⟨v14, ev14, h⟩ := zb_some h
      refine zw.e (hR.zl ev14) ?_
      by_cases c : v14 = (0 : Int32)
      · have h := (if_pos c).symm.trans h
        refine zw.t c ?_
        obtain ⟨v15, ev15, h⟩ := zb_some h
        have nv15 := hR.gn (by decide) ev15
        refine zw.e (hR.gr (by decide) ev15) ?_
        obtain ⟨v16, ev16, h⟩ := zb_some h
        have nv16 := hR.gn (by decide) ev16
        refine zw.e (hR.gr (by decide) ev16) ?_
        obtain ⟨v17, ev17, h⟩ := zb_some h
        have nv17 := hR.an (by decide) ev17
        refine zw.e (hR.al (by decide) ev17) ?_
        obtain ⟨v18, ev18, h⟩ := zb_some h
        refine zw.e (hR.gz ev18) ?_
        exact sX7_made_60  hR h
      · have h := (if_neg c).symm.trans h
        refine zw.f c ?_
        exact sX7_made_60  hR h
theorem sX7_made {N : Nat} {r : Int32} {T : zS} {S : zS} {Sr : zS} {z : Nat} {x0 : Nat} {x1 : Int32} {x2 : Int32} (hR : zR rows lm u z S Sr) (nx0 : zn rows x0) (h : fX7_made N S x0 x1 x2 = some (r, T)) : zw (rX7_made N Sr z x0 x1 x2) (tQ rows lm u z r T) := sX7_made_0 hR nx0 h
set_option maxRecDepth 100000 in
set_option maxHeartbeats 4000000 in
theorem sX7_at_88 {N : Nat} {r : Int32} {T : zS}  {S : zS} {Sr : zS} {z : Nat} {y0 : Int32} (hR : zR rows lm u z S Sr) (h : fX7_at_88 N S y0 = some (r, T)) : zw (rX7_at_88 N Sr z y0) (tQ rows lm u z r T) := by
  unfold fX7_at_88 at h
  unfold rX7_at_88
  refine zgeI_w (Nat.le_refl _) ?_
  cases h
  exact zw.s ⟨rfl, Nat.le_refl _, hR⟩
set_option maxRecDepth 100000 in
set_option maxHeartbeats 4000000 in
theorem sX7_at_26 {N : Nat} {r : Int32} {T : zS}  {S : zS} {Sr : zS} {z : Nat} (hR : zR rows lm u z S Sr) (h : fX7_at_26 N S = some (r, T)) : zw (rX7_at_26 N Sr z) (tQ rows lm u z r T) := by
  unfold fX7_at_26 at h
  unfold rX7_at_26
  refine zgeI_w (Nat.le_refl _) ?_
  cases h
  exact zw.s ⟨rfl, Nat.le_refl _, hR⟩
set_option maxRecDepth 100000 in
set_option maxHeartbeats 4000000 in
theorem sX7_at_0 {N : Nat} {r : Int32} {T : zS}  {S : zS} {Sr : zS} {z : Nat} {x0 : Nat} {x1 : Int32} {x2 : Int32} {x3 : Int32} (hR : zR rows lm u z S Sr) (nx0 : zn rows x0) (h : fX7_at_0 N S x0 x1 x2 x3 = some (r, T)) : zw (rX7_at_0 N Sr z x0 x1 x2 x3) (tQ rows lm u z r T) := by
  unfold fX7_at_0 at h
  unfold rX7_at_0
  refine zgeI_w (Nat.le_refl _) ?_
  obtain ⟨v2, S1, eS1, h⟩ := zb2_some h
  refine sc2 (sX7_isRoom hR eS1) (fun S1r hR => ?_)
  by_cases c : v2 = (0 : Int32)
  · have h := (if_pos c).symm.trans h
    refine zw.t c ?_
    exact sX7_at_26  hR h
  · have h := (if_neg c).symm.trans h
    refine zw.f c ?_
    obtain ⟨u3, eu3, h⟩ := zb_some h
    refine zw.e (hR.rc eu3) ?_
    obtain ⟨v5, S4, eS4, h⟩ := zb2_some h
    refine sc2 (sX7_isStep hR nx0 eS4) (fun S4r hR => ?_)
    by_cases c : v5 = (0 : Int32)
    · have h := (if_pos c).symm.trans h
      refine zw.t c ?_
      exact sX7_at_26  hR h
    · have h := (if_neg c).symm.trans h
      refine zw.f c ?_
      by_cases c : x3 < (0 : Int32)
      · have h := (if_pos c).symm.trans h
        refine zw.t c ?_
        exact sX7_at_26  hR h
      · have h := (if_neg c).symm.trans h
        refine zw.f c ?_
        by_cases c : x3 < (200 : Int32)
        · have h := (if_pos c).symm.trans h
          refine zw.t c ?_
          obtain ⟨v6, ev6, h⟩ := zb_some h
          have nv6 := hR.gn (by decide) ev6
          refine zw.e (hR.gr (by decide) ev6) ?_
          obtain ⟨v7, ev7, h⟩ := zb_some h
          have nv7 := hR.gn (by decide) ev7
          refine zw.e (hR.gr (by decide) ev7) ?_
          obtain ⟨v8, ev8, h⟩ := zb_some h
          have nv8 := hR.an (by decide) ev8
          refine zw.e (hR.al (by decide) ev8) ?_
          obtain ⟨u9, eu9, h⟩ := zb_some h
          refine zw.e (hR.rc eu9) ?_
          obtain ⟨S10, eS10, h⟩ := zb_some h
          refine sc2z (sX1_makeIn hR nv6 nv8 eS10) (fun S10r z11 hmz11 hR => ?_)
          refine zgeI_w hmz11 ?_
          obtain ⟨v12, ev12, h⟩ := zb_some h
          have nv12 := hR.gn (by decide) ev12
          refine zw.e (hR.gr (by decide) ev12) ?_
          obtain ⟨v13, ev13, h⟩ := zb_some h
          have nv13 := hR.gn (by decide) ev13
          refine zw.e (hR.gr (by decide) ev13) ?_
          obtain ⟨v14, ev14, h⟩ := zb_some h
          refine zw.e (hR.zl ev14) ?_
          by_cases c : v14 = (0 : Int32)
          · have h := (if_pos c).symm.trans h
            refine zw.t c ?_
            obtain ⟨v15, ev15, h⟩ := zb_some h
            have nv15 := hR.gn (by decide) ev15
            refine zw.e (hR.gr (by decide) ev15) ?_
            obtain ⟨v16, ev16, h⟩ := zb_some h
            have nv16 := hR.gn (by decide) ev16
            refine zw.e (hR.gr (by decide) ev16) ?_
            obtain ⟨v17, ev17, h⟩ := zb_some h
            have nv17 := hR.an (by decide) ev17
            refine zw.e (hR.al (by decide) ev17) ?_
            obtain ⟨v18, ev18, h⟩ := zb_some h
            refine zw.e (hR.gz ev18) ?_
            by_cases c : v18 ≤ x3
            · have h := (if_pos c).symm.trans h
              refine zw.t c ?_
              exact sX7_at_88  hR h
            · have h := (if_neg c).symm.trans h
              refine zw.f c ?_
              obtain ⟨v19, ev19, h⟩ := zb_some h
              obtain ⟨bv19, qv19, pv19⟩ := hR.gb ev19
              refine zw.e qv19 ?_
              obtain ⟨v20, ev20, h⟩ := zb_some h
              refine zw.e (hR.ib pv19 ev20) ?_
              exact sX7_at_88  hR h
          · have h := (if_neg c).symm.trans h
            refine zw.f c ?_
            cases h
            exact zw.s ⟨rfl, Nat.le_refl _, hR⟩
        · have h := (if_neg c).symm.trans h
          refine zw.f c ?_
          exact sX7_at_26  hR h
theorem sX7_at {N : Nat} {r : Int32} {T : zS} {S : zS} {Sr : zS} {z : Nat} {x0 : Nat} {x1 : Int32} {x2 : Int32} {x3 : Int32} (hR : zR rows lm u z S Sr) (nx0 : zn rows x0) (h : fX7_at N S x0 x1 x2 x3 = some (r, T)) : zw (rX7_at N Sr z x0 x1 x2 x3) (tQ rows lm u z r T) := sX7_at_0 hR nx0 h
set_option maxRecDepth 100000 in
set_option maxHeartbeats 4000000 in
theorem sX7_reads_61 {N : Nat} {r : Int32} {T : zS}  {S : zS} {Sr : zS} {z : Nat} {y0 : Nat} {y1 : Int32} (hR : zR rows lm u z S Sr) (ny0 : zn rows y0) (h : fX7_reads_61 N S y0 y1 = some (r, T)) : zw (rX7_reads_61 N Sr z y0 y1) (tQ rows lm u z r T) := by
  unfold fX7_reads_61 at h
  unfold rX7_reads_61
  refine zgeI_w (Nat.le_refl _) ?_
  obtain ⟨u1, eu1, h⟩ := zb_some h
  refine zw.e (hR.rc eu1) ?_
  obtain ⟨v3, S2, eS2, h⟩ := zb2_some h
  refine sc2 (sX1_wordsRead hR ny0 eS2) (fun S2r hR => ?_)
  cases h
  exact zw.s ⟨rfl, Nat.le_refl _, hR⟩
set_option maxRecDepth 100000 in
set_option maxHeartbeats 4000000 in
theorem sX7_reads_22 {N : Nat} {r : Int32} {T : zS}  {S : zS} {Sr : zS} {z : Nat} (hR : zR rows lm u z S Sr) (h : fX7_reads_22 N S = some (r, T)) : zw (rX7_reads_22 N Sr z) (tQ rows lm u z r T) := by
  unfold fX7_reads_22 at h
  unfold rX7_reads_22
  refine zgeI_w (Nat.le_refl _) ?_
  cases h
  exact zw.s ⟨rfl, Nat.le_refl _, hR⟩
set_option maxRecDepth 100000 in
set_option maxHeartbeats 4000000 in
theorem sX7_reads_0 {N : Nat} {r : Int32} {T : zS}  {S : zS} {Sr : zS} {z : Nat} {x0 : Nat} {x1 : Int32} {x2 : Int32} {x3 : Int32} (hR : zR rows lm u z S Sr) (nx0 : zn rows x0) (h : fX7_reads_0 N S x0 x1 x2 x3 = some (r, T)) : zw (rX7_reads_0 N Sr z x0 x1 x2 x3) (tQ rows lm u z r T) := by
  unfold fX7_reads_0 at h
  unfold rX7_reads_0
  refine zgeI_w (Nat.le_refl _) ?_
  obtain ⟨v5, S4, eS4, h⟩ := zb2_some h
  refine sc2 (sX7_isRoom hR eS4) (fun S4r hR => ?_)
  by_cases c : v5 = (0 : Int32)
  · have h := (if_pos c).symm.trans h
    refine zw.t c ?_
    exact sX7_reads_22  hR h
  · have h := (if_neg c).symm.trans h
    refine zw.f c ?_
    obtain ⟨u6, eu6, h⟩ := zb_some h
    refine zw.e (hR.rc eu6) ?_
    obtain ⟨v8, S7, eS7, h⟩ := zb2_some h
    refine sc2 (sX7_isStep hR nx0 eS7) (fun S7r hR => ?_)
    by_cases c : v8 = (0 : Int32)
    · have h := (if_pos c).symm.trans h
      refine zw.t c ?_
      exact sX7_reads_22  hR h
    · have h := (if_neg c).symm.trans h
      refine zw.f c ?_
      obtain ⟨v10, S9, eS9, h⟩ := zb2_some h
      refine sc2 (sX7_isBit hR eS9) (fun S9r hR => ?_)
      by_cases c : v10 = (0 : Int32)
      · have h := (if_pos c).symm.trans h
        refine zw.t c ?_
        exact sX7_reads_22  hR h
      · have h := (if_neg c).symm.trans h
        refine zw.f c ?_
        obtain ⟨v11, ev11, h⟩ := zb_some h
        have nv11 := hR.gn (by decide) ev11
        refine zw.e (hR.gr (by decide) ev11) ?_
        obtain ⟨v12, ev12, h⟩ := zb_some h
        have nv12 := hR.gn (by decide) ev12
        refine zw.e (hR.gr (by decide) ev12) ?_
        obtain ⟨v13, ev13, h⟩ := zb_some h
        have nv13 := hR.an (by decide) ev13
        refine zw.e (hR.al (by decide) ev13) ?_
        obtain ⟨u14, eu14, h⟩ := zb_some h
        refine zw.e (hR.rc eu14) ?_
        obtain ⟨S15, eS15, h⟩ := zb_some h
        refine sc2z (sX1_makeIn hR nv11 nv13 eS15) (fun S15r z16 hmz16 hR => ?_)
        refine zgeI_w hmz16 ?_
        obtain ⟨v17, ev17, h⟩ := zb_some h
        have nv17 := hR.gn (by decide) ev17
        refine zw.e (hR.gr (by decide) ev17) ?_
        by_cases c : x3 = (0 : Int32)
        · have h := (if_pos c).symm.trans h
          refine zw.t c ?_
          exact sX7_reads_61  hR nv17 h
        · have h := (if_neg c).symm.trans h
          refine zw.f c ?_
          obtain ⟨v18, ev18, h⟩ := zb_some h
          have nv18 := hR.gn (by decide) ev18
          refine zw.e (hR.gr (by decide) ev18) ?_
          obtain ⟨v19, ev19, h⟩ := zb_some h
          have nv19 := hR.gn (by decide) ev19
          refine zw.e (hR.gr (by decide) ev19) ?_
          obtain ⟨v20, ev20, h⟩ := zb_some h
          refine zw.e (hR.il nv19 ev20) ?_
          exact sX7_reads_61  hR nv17 h
theorem sX7_reads {N : Nat} {r : Int32} {T : zS} {S : zS} {Sr : zS} {z : Nat} {x0 : Nat} {x1 : Int32} {x2 : Int32} {x3 : Int32} (hR : zR rows lm u z S Sr) (nx0 : zn rows x0) (h : fX7_reads N S x0 x1 x2 x3 = some (r, T)) : zw (rX7_reads N Sr z x0 x1 x2 x3) (tQ rows lm u z r T) := sX7_reads_0 hR nx0 h
set_option maxRecDepth 100000 in
set_option maxHeartbeats 4000000 in
theorem sX7_uses_42 {N : Nat} {z : Nat} {r : Int32} {T : zS}  {S : zS} {Sr : zS} {y0 : Int32} (hR : zR rows lm u z S Sr) (h : fX7_uses_42 N S y0 = some (r, T)) : zw (rX7_uses_42 N Sr y0) (sQ rows lm u z r T) := by
  unfold fX7_uses_42 at h
  unfold rX7_uses_42
  cases h
  exact zw.s ⟨rfl, hR⟩
set_option maxRecDepth 100000 in
set_option maxHeartbeats 4000000 in
theorem sX7_uses_15 {N : Nat} {z : Nat} {r : Int32} {T : zS}  {S : zS} {Sr : zS} (hR : zR rows lm u z S Sr) (h : fX7_uses_15 N S = some (r, T)) : zw (rX7_uses_15 N Sr) (sQ rows lm u z r T) := by
  unfold fX7_uses_15 at h
  unfold rX7_uses_15
  cases h
  exact zw.s ⟨rfl, hR⟩
set_option maxRecDepth 100000 in
set_option maxHeartbeats 4000000 in
theorem sX7_uses_0 {N : Nat} {z : Nat} {r : Int32} {T : zS}  {S : zS} {Sr : zS} {x0 : Nat} {x1 : Int32} {x2 : Int32} (hR : zR rows lm u z S Sr) (nx0 : zn rows x0) (h : fX7_uses_0 N S x0 x1 x2 = some (r, T)) : zw (rX7_uses_0 N Sr x0 x1 x2) (sQ rows lm u z r T) := by
  unfold fX7_uses_0 at h
  unfold rX7_uses_0
  obtain ⟨u1, eu1, h⟩ := zb_some h
  refine zw.e (hR.rc eu1) ?_
  obtain ⟨v3, S2, eS2, h⟩ := zb2_some h
  refine sc2 (sX7_isStep hR nx0 eS2) (fun S2r hR => ?_)
  by_cases c : v3 = (0 : Int32)
  · have h := (if_pos c).symm.trans h
    refine zw.t c ?_
    exact sX7_uses_15  hR h
  · have h := (if_neg c).symm.trans h
    refine zw.f c ?_
    obtain ⟨v5, S4, eS4, h⟩ := zb2_some h
    refine sc2 (sX7_isBit hR eS4) (fun S4r hR => ?_)
    by_cases c : v5 = (0 : Int32)
    · have h := (if_pos c).symm.trans h
      refine zw.t c ?_
      exact sX7_uses_15  hR h
    · have h := (if_neg c).symm.trans h
      refine zw.f c ?_
      by_cases c : x2 = (0 : Int32)
      · have h := (if_pos c).symm.trans h
        refine zw.t c ?_
        obtain ⟨v9, ev9, h⟩ := zb_some h
        have nv9 := hR.gn (by decide) ev9
        refine zw.e (hR.gr (by decide) ev9) ?_
        obtain ⟨v10, ev10, h⟩ := zb_some h
        have nv10 := hR.gn (by decide) ev10
        refine zw.e (hR.gr (by decide) ev10) ?_
        obtain ⟨v11, ev11, h⟩ := zb_some h
        refine zw.e (hR.il nv10 ev11) ?_
        exact sX7_uses_42  hR h
      · have h := (if_neg c).symm.trans h
        refine zw.f c ?_
        obtain ⟨v6, ev6, h⟩ := zb_some h
        have nv6 := hR.gn (by decide) ev6
        refine zw.e (hR.gr (by decide) ev6) ?_
        obtain ⟨v7, ev7, h⟩ := zb_some h
        have nv7 := hR.gn (by decide) ev7
        refine zw.e (hR.gr (by decide) ev7) ?_
        obtain ⟨v8, ev8, h⟩ := zb_some h
        refine zw.e (hR.il nv7 ev8) ?_
        exact sX7_uses_42  hR h
theorem sX7_uses {N : Nat} {z : Nat} {r : Int32} {T : zS} {S : zS} {Sr : zS} {x0 : Nat} {x1 : Int32} {x2 : Int32} (hR : zR rows lm u z S Sr) (nx0 : zn rows x0) (h : fX7_uses N S x0 x1 x2 = some (r, T)) : zw (rX7_uses N Sr x0 x1 x2) (sQ rows lm u z r T) := sX7_uses_0 hR nx0 h
set_option maxRecDepth 100000 in
set_option maxHeartbeats 4000000 in
theorem sX7_orders_0 {N : Nat} {MC MS zT D1 D2 : Nat} {r : Int64} {T : zS}  {S : zS} {Sr : zS} {z : Nat} {q : Nat} {w : Nat} {u : Nat} {x0 : Nat} {x1 : Int32} (hR : zR rows lm u z S Sr) (hu : u + D1 = D2 + z) (nx0 : zn rows x0) (h : fX7_orders_0 N MC MS S z q w x0 x1 = some (r, T, zT)) : zw (rX7_orders_0 N MC MS Sr z q w x0 x1) (oQ rows lm D1 D2 zT r T) := by
  unfold fX7_orders_0 at h
  unfold rX7_orders_0
  obtain ⟨u1, eu1, h⟩ := zb_some h
  refine zw.e eu1 ?_
  obtain ⟨u2, eu2, h⟩ := zb_some h
  refine zw.e (hR.rc eu2) ?_
  obtain ⟨v4, S3, eS3, h⟩ := zb2_some h
  refine sc2 (sX7_isStep hR nx0 eS3) (fun S3r hR => ?_)
  by_cases c : v4 = (0 : Int32)
  · have h := (if_pos c).symm.trans h
    refine zw.t c ?_
    obtain ⟨hf, h⟩ := zfin_some h
    cases h
    exact zfin_w hf ⟨rfl, rfl, _, hu, hR⟩
  · have h := (if_neg c).symm.trans h
    refine zw.f c ?_
    obtain ⟨v5, ev5, h⟩ := zb_some h
    have nv5 := hR.gn (by decide) ev5
    refine zw.e (hR.gr (by decide) ev5) ?_
    obtain ⟨v6, ev6, h⟩ := zb_some h
    have nv6 := hR.gn (by decide) ev6
    refine zw.e (hR.gr (by decide) ev6) ?_
    obtain ⟨v7, ev7, h⟩ := zb_some h
    refine zw.e (hR.il nv6 ev7) ?_
    obtain ⟨u8, eu8, h⟩ := zb_some h
    refine zw.e eu8 ?_
    obtain ⟨v10, S9, eS9, h⟩ := zb2_some h
    refine sc2 (sJ6_bitCount_0f7a4 hR eS9) (fun S9r hR => ?_)
    by_cases c : v10 ≤ (16 : Int32)
    · have h := (if_pos c).symm.trans h
      refine zw.t c ?_
      obtain ⟨v11, ev11, h⟩ := zb_some h
      have nv11 := hR.gn (by decide) ev11
      refine zw.e (hR.gr (by decide) ev11) ?_
      obtain ⟨v12, ev12, h⟩ := zb_some h
      have nv12 := hR.gn (by decide) ev12
      refine zw.e (hR.gr (by decide) ev12) ?_
      obtain ⟨u13, eu13, h⟩ := zb_some h
      refine zw.e eu13 ?_
      obtain ⟨u14, eu14, h⟩ := zb_some h
      refine zw.e (hR.rc eu14) ?_
      obtain ⟨v17, S15, z16, eS15, h⟩ := zb3_some h
      refine sc3o (sX3_ordersOf hR hu nv11 nv12 eS15) (fun S15r u hR hu => ?_)
      obtain ⟨hf, h⟩ := zfin_some h
      cases h
      exact zfin_w hf ⟨rfl, rfl, _, hu, hR⟩
    · have h := (if_neg c).symm.trans h
      refine zw.f c ?_
      obtain ⟨hf, h⟩ := zfin_some h
      cases h
      exact zfin_w hf ⟨rfl, rfl, _, hu, hR⟩
theorem sX7_orders {N : Nat} {MC MS zT D1 D2 : Nat} {r : Int64} {T : zS} {S : zS} {Sr : zS} {z : Nat} {q : Nat} {w : Nat} {u : Nat} {x0 : Nat} {x1 : Int32} (hR : zR rows lm u z S Sr) (hu : u + D1 = D2 + z) (nx0 : zn rows x0) (h : fX7_orders N MC MS S z q w x0 x1 = some (r, T, zT)) : zw (rX7_orders N MC MS Sr z q w x0 x1) (oQ rows lm D1 D2 zT r T) := sX7_orders_0 hR hu nx0 h
set_option maxRecDepth 100000 in
set_option maxHeartbeats 4000000 in
theorem sX7_built_63 {N : Nat} {r : Int32} {T : zS} {Kv34 : zS × Nat × Int32 × Int32 → Option (Int32 × zS)} {K34 : zS × Nat × Nat × Int32 × Int32 → Option (Int32 × zS × Nat)} (hK34 : ∀ (S : zS) (Sr : zS) (z : Nat) (x0 : Nat) (x2 : Int32) (x3 : Int32), zR rows lm u z S Sr → zn rows x0 → Kv34 (S, x0, x2, x3) = some (r, T) → zw (K34 (Sr, z, x0, x2, x3)) (tQ rows lm u z r T)) {S : zS} {Sr : zS} {z : Nat} {x0 : Nat} {x3 : Int32} {y0 : Int32} {y1 : Int32} (hR : zR rows lm u z S Sr) (nx0 : zn rows x0) (h : fX7_built_63 N Kv34 S x0 x3 y0 y1 = some (r, T)) : zw (rX7_built_63 N K34 Sr z x0 x3 y0 y1) (tQ rows lm u z r T) := by
  unfold fX7_built_63 at h
  unfold rX7_built_63
  refine zgeI_w (Nat.le_refl _) ?_
  exact hK34 _ _ _ _ _ _ hR nx0 h
set_option maxRecDepth 100000 in
set_option maxHeartbeats 4000000 in
theorem sX7_built_34 {N : Nat} {r : Int32} {T : zS} {Kv34 : zS × Nat × Int32 × Int32 → Option (Int32 × zS)} {K34 : zS × Nat × Nat × Int32 × Int32 → Option (Int32 × zS × Nat)} (hK34 : ∀ (S : zS) (Sr : zS) (z : Nat) (x0 : Nat) (x2 : Int32) (x3 : Int32), zR rows lm u z S Sr → zn rows x0 → Kv34 (S, x0, x2, x3) = some (r, T) → zw (K34 (Sr, z, x0, x2, x3)) (tQ rows lm u z r T)) {S : zS} {Sr : zS} {z : Nat} {x0 : Nat} {x2 : Int32} {x3 : Int32} (hR : zR rows lm u z S Sr) (nx0 : zn rows x0) (h : fX7_built_34 N Kv34 S x0 x2 x3 = some (r, T)) : zw (rX7_built_34 N K34 Sr z x0 x2 x3) (tQ rows lm u z r T) := by
  unfold fX7_built_34 at h
  unfold rX7_built_34
  refine zgeI_w (Nat.le_refl _) ?_
  obtain ⟨v1, ev1, h⟩ := zb_some h
  have nv1 := hR.gn (by decide) ev1
  refine zw.e (hR.gr (by decide) ev1) ?_
  obtain ⟨v2, ev2, h⟩ := zb_some h
  refine zw.e (hR.gi (by decide) ev2) ?_
  by_cases c : v2 ≤ x3
  · have h := (if_pos c).symm.trans h
    refine zw.t c ?_
    cases h
    exact zw.s ⟨rfl, Nat.le_refl _, hR⟩
  · have h := (if_neg c).symm.trans h
    refine zw.f c ?_
    obtain ⟨v3, ev3, h⟩ := zb_some h
    have nv3 := hR.gn (by decide) ev3
    refine zw.e (hR.gr (by decide) ev3) ?_
    obtain ⟨v4, ev4, h⟩ := zb_some h
    have nv4 := hR.gn (by decide) ev4
    refine zw.e (hR.gr (by decide) ev4) ?_
    obtain ⟨v5, ev5, h⟩ := zb_some h
    refine zw.e (hR.zl ev5) ?_
    by_cases c : v5 = (0 : Int32)
    · have h := (if_pos c).symm.trans h
      refine zw.t c ?_
      exact sX7_built_63 hK34  hR nx0 h
    · have h := (if_neg c).symm.trans h
      refine zw.f c ?_
      exact sX7_built_63 hK34  hR nx0 h
set_option maxRecDepth 100000 in
set_option maxHeartbeats 4000000 in
theorem tX7_built_34 {N : Nat} {r : Int32} {T : zS}  {S : zS} {Sr : zS} {z : Nat} {x0 : Nat} {x2 : Int32} {x3 : Int32} (hR : zR rows lm u z S Sr) (nx0 : zn rows x0) (h : lX7_built_34 N S x0 x2 x3 = some (r, T)) : zw (rlX7_built_34 N Sr z x0 x2 x3) (tQ rows lm u z r T) := by
  unfold lX7_built_34 at h
  unfold rlX7_built_34
  refine zl_sim (I := fun y y' => ∃ (S : zS) (Sr : zS) (z : Nat) (x0 : Nat) (x2 : Int32) (x3 : Int32), y = (S, x0, x2, x3) ∧ y' = (Sr, z, x0, x2, x3) ∧ zR rows lm u z S Sr ∧ zn rows x0) (Q := fun y' => (tQ rows lm u y'.2.1 r T)) ?_ N _ _ ⟨S, Sr, z, x0, x2, x3, rfl, rfl, hR, nx0⟩ h
  rintro K K' hK y y' ⟨S, Sr, z, x0, x2, x3, rfl, rfl, hR, nx0⟩ h
  exact sX7_built_34 (fun S Sr z x0 x2 x3 hR nx0 h => hK _ _ ⟨S, Sr, z, x0, x2, x3, rfl, rfl, hR, nx0⟩ h) hR nx0 h
set_option maxRecDepth 100000 in
set_option maxHeartbeats 4000000 in
theorem sX7_built_0 {N : Nat} {r : Int32} {T : zS}  {S : zS} {Sr : zS} {z : Nat} {x0 : Nat} {x1 : Int32} (hR : zR rows lm u z S Sr) (nx0 : zn rows x0) (h : fX7_built_0 N S x0 x1 = some (r, T)) : zw (rX7_built_0 N Sr z x0 x1) (tQ rows lm u z r T) := by
  unfold fX7_built_0 at h
  unfold rX7_built_0
  refine zgeI_w (Nat.le_refl _) ?_
  obtain ⟨v7, S6, eS6, h⟩ := zb2_some h
  refine sc2 (sX7_isRoom hR eS6) (fun S6r hR => ?_)
  by_cases c : v7 = (0 : Int32)
  · have h := (if_pos c).symm.trans h
    refine zw.t c ?_
    cases h
    exact zw.s ⟨rfl, Nat.le_refl _, hR⟩
  · have h := (if_neg c).symm.trans h
    refine zw.f c ?_
    obtain ⟨v8, ev8, h⟩ := zb_some h
    have nv8 := hR.gn (by decide) ev8
    refine zw.e (hR.gr (by decide) ev8) ?_
    obtain ⟨v9, ev9, h⟩ := zb_some h
    have nv9 := hR.gn (by decide) ev9
    refine zw.e (hR.gr (by decide) ev9) ?_
    obtain ⟨v10, ev10, h⟩ := zb_some h
    have nv10 := hR.an (by decide) ev10
    refine zw.e (hR.al (by decide) ev10) ?_
    obtain ⟨u11, eu11, h⟩ := zb_some h
    refine zw.e (hR.rc eu11) ?_
    obtain ⟨S12, eS12, h⟩ := zb_some h
    refine zw.c (sX1_open hR nv8 nv10 eS12) (fun S12r hR => ?_)
    obtain ⟨v13, ev13, h⟩ := zb_some h
    have nv13 := hR.gn (by decide) ev13
    refine zw.e (hR.gr (by decide) ev13) ?_
    obtain ⟨u14, eu14, h⟩ := zb_some h
    refine zw.e (hR.rc eu14) ?_
    obtain ⟨S15, eS15, h⟩ := zb_some h
    refine sc2z (sX1_make hR nv13 eS15) (fun S15r z16 hmz16 hR => ?_)
    refine zgeI_w hmz16 ?_
    exact tX7_built_34  hR nx0 h
theorem sX7_built {N : Nat} {r : Int32} {T : zS} {S : zS} {Sr : zS} {z : Nat} {x0 : Nat} {x1 : Int32} (hR : zR rows lm u z S Sr) (nx0 : zn rows x0) (h : fX7_built N S x0 x1 = some (r, T)) : zw (rX7_built N Sr z x0 x1) (tQ rows lm u z r T) := sX7_built_0 hR nx0 h
end
