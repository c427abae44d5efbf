section
variable {rows : List Nat} {lm u : Nat}
set_option maxRecDepth 100000 in
set_option maxHeartbeats 4000000 in
theorem sX0_chooseMove_95 {N : Nat} {z : Nat} {T : zS}  {S : zS} {Sr : zS} {x0 : Nat} {x1 : Int32} {x2 : Int32} {x7 : Int32} (hR : zR rows lm u z S Sr) (nx0 : zn rows x0) (h : fX0_chooseMove_95 N S x0 x1 x2 x7 = some T) : zw (rX0_chooseMove_95 N Sr x0 x1 x2 x7) (sV rows lm u z T) := by
  unfold fX0_chooseMove_95 at h
  unfold rX0_chooseMove_95
  obtain ⟨v1, ev1⟩ : ∃ y : Int32, y = ((((x1 * (200 : Int32)) + x2) &&& (15 : Int32)) * (2 : Int32)) := ⟨_, rfl⟩
  have h := zlet_at ev1 h
  refine zw_let ev1 ?_
  obtain ⟨v2, ev2, h⟩ := zb_some h
  have nv2 := hR.gn (by decide) ev2
  refine zw.e (hR.gr (by decide) ev2) ?_
  obtain ⟨v3, ev3, h⟩ := zb_some h
  have nv3 := hR.gn (by decide) ev3
  refine zw.e (hR.gr (by decide) ev3) ?_
  obtain ⟨v4, ev4, h⟩ := zb_some h
  refine zw.e (hR.il nv3 ev4) ?_
  obtain ⟨S5, eS5, h⟩ := zb_some h
  obtain ⟨S5r, qS5, hR⟩ := hR.is nv2 eS5
  refine zw.e qS5 ?_
  cases h
  exact zw.s hR
set_option maxRecDepth 100000 in
set_option maxHeartbeats 4000000 in
theorem sX0_chooseMove_93 {N : Nat} {z : Nat} {T : zS}  {S : zS} {Sr : zS} {x0 : Nat} {x1 : Int32} {x2 : Int32} {y0 : Int32} (hR : zR rows lm u z S Sr) (nx0 : zn rows x0) (h : fX0_chooseMove_93 N S x0 x1 x2 y0 = some T) : zw (rX0_chooseMove_93 N Sr x0 x1 x2 y0) (sV rows lm u z T) := by
  unfold fX0_chooseMove_93 at h
  unfold rX0_chooseMove_93
  exact sX0_chooseMove_95  hR nx0 h
set_option maxRecDepth 100000 in
set_option maxHeartbeats 4000000 in
theorem sX0_chooseMove_0 {N : Nat} {z : Nat} {T : zS}  {S : zS} {Sr : zS} {x0 : Nat} {x1 : Int32} {x2 : Int32} {x3 : Int32} (hR : zR rows lm u z S Sr) (nx0 : zn rows x0) (h : fX0_chooseMove_0 N S x0 x1 x2 x3 = some T) : zw (rX0_chooseMove_0 N Sr x0 x1 x2 x3) (sV rows lm u z T) := by
  unfold fX0_chooseMove_0 at h
  unfold rX0_chooseMove_0
  obtain ⟨v6, ev6, h⟩ := zb_some h
  have nv6 := hR.gn (by decide) ev6
  refine zw.e (hR.gr (by decide) ev6) ?_
  obtain ⟨v7, ev7, h⟩ := zb_some h
  refine zw.e (hR.il nv6 ev7) ?_
  obtain ⟨v8, ev8, h⟩ := zb_some h
  have nv8 := hR.gn (by decide) ev8
  refine zw.e (hR.gr (by decide) ev8) ?_
  obtain ⟨v9, ev9, h⟩ := zb_some h
  refine zw.e (hR.il nv8 ev9) ?_
  obtain ⟨v10, ev10, h⟩ := zb_some h
  have nv10 := hR.gn (by decide) ev10
  refine zw.e (hR.gr (by decide) ev10) ?_
  obtain ⟨v11, ev11, h⟩ := zb_some h
  refine zw.e (hR.il nv10 ev11) ?_
  by_cases c : x3 = (0 : Int32)
  · have h := (if_pos c).symm.trans h
    refine zw.t c ?_
    obtain ⟨v12, ev12⟩ : ∃ y : Int32, y = (zmn v7 (zmn v9 v11)) := ⟨_, rfl⟩
    have h := zlet_at ev12 h
    refine zw_let ev12 ?_
    obtain ⟨v13, ev13, h⟩ := zb_some h
    have nv13 := hR.gn (by decide) ev13
    refine zw.e (hR.gr (by decide) ev13) ?_
    obtain ⟨S14, eS14, h⟩ := zb_some h
    obtain ⟨S14r, qS14, hR⟩ := hR.is nv13 eS14
    refine zw.e qS14 ?_
    by_cases c : v7 = v12
    · have h := (if_pos c).symm.trans h
      refine zw.t c ?_
      exact sX0_chooseMove_93  hR nx0 h
    · have h := (if_neg c).symm.trans h
      refine zw.f c ?_
      by_cases c : v9 = v12
      · have h := (if_pos c).symm.trans h
        refine zw.t c ?_
        exact sX0_chooseMove_93  hR nx0 h
      · have h := (if_neg c).symm.trans h
        refine zw.f c ?_
        exact sX0_chooseMove_93  hR nx0 h
  · have h := (if_neg c).symm.trans h
    refine zw.f c ?_
    obtain ⟨v15, ev15, h⟩ := zb_some h
    have nv15 := hR.gn (by decide) ev15
    refine zw.e (hR.gr (by decide) ev15) ?_
    obtain ⟨S16, eS16, h⟩ := zb_some h
    obtain ⟨S16r, qS16, hR⟩ := hR.is nv15 eS16
    refine zw.e qS16 ?_
    exact sX0_chooseMove_95  hR nx0 h
theorem sX0_chooseMove {N : Nat} {z : Nat} {T : zS} {S : zS} {Sr : zS} {x0 : Nat} {x1 : Int32} {x2 : Int32} {x3 : Int32} (hR : zR rows lm u z S Sr) (nx0 : zn rows x0) (h : fX0_chooseMove N S x0 x1 x2 x3 = some T) : zw (rX0_chooseMove N Sr x0 x1 x2 x3) (sV rows lm u z T) := sX0_chooseMove_0 hR nx0 h
set_option maxRecDepth 100000 in
set_option maxHeartbeats 4000000 in
theorem sX0_chooseMoves_123 {N : Nat} {z : Nat} {T : zS} {Kv40 : zS × Nat × Nat × Nat × Int32 × Int32 → Option (zS)} {K40 : zS × Nat × Nat × Nat × Int32 × Int32 → Option (zS)} (hK40 : ∀ (S : zS) (Sr : zS) (x0 : Nat) (x1 : Nat) (x2 : Nat) (x3 : Int32) (x4 : Int32), zR rows lm u z S Sr → zn rows x0 → zn rows x1 → zn rows x2 → Kv40 (S, x0, x1, x2, x3, x4) = some T → zw (K40 (Sr, x0, x1, x2, x3, x4)) (sV rows lm u z T)) {Kv90 : zS × Nat × Nat × Nat × Int32 × Int32 × Int32 → Option (zS)} {K90 : zS × Nat × Nat × Nat × Int32 × Int32 × Int32 → Option (zS)} (hK90 : ∀ (S : zS) (Sr : zS) (x0 : Nat) (x1 : Nat) (x2 : Nat) (x3 : Int32) (x4 : Int32) (x6 : Int32), zR rows lm u z S Sr → zn rows x0 → zn rows x1 → zn rows x2 → Kv90 (S, x0, x1, x2, x3, x4, x6) = some T → zw (K90 (Sr, x0, x1, x2, x3, x4, x6)) (sV rows lm u z T)) {S : zS} {Sr : zS} {x0 : Nat} {x1 : Nat} {x2 : Nat} {x3 : Int32} {x4 : Int32} {x6 : Int32} {y0 : Nat} {y1 : Int32} {y2 : Int32} {y3 : Int32} (hR : zR rows lm u z S Sr) (nx0 : zn rows x0) (nx1 : zn rows x1) (nx2 : zn rows x2) (ny0 : zn rows y0) (h : fX0_chooseMoves_123 N Kv40 Kv90 S x0 x1 x2 x3 x4 x6 y0 y1 y2 y3 = some T) : zw (rX0_chooseMoves_123 N K40 K90 Sr x0 x1 x2 x3 x4 x6 y0 y1 y2 y3) (sV rows lm u z T) := by
  unfold fX0_chooseMoves_123 at h
  unfold rX0_chooseMoves_123
  obtain ⟨u1, eu1, h⟩ := zb_some h
  refine zw.e (hR.rc eu1) ?_
  obtain ⟨S2, eS2, h⟩ := zb_some h
  refine zw.c (sX0_chooseMove hR ny0 eS2) (fun S2r hR => ?_)
  exact hK90 _ _ _ _ _ _ _ _ hR nx0 nx1 nx2 h
set_option maxRecDepth 100000 in
set_option maxHeartbeats 4000000 in
theorem sX0_chooseMoves_90 {N : Nat} {z : Nat} {T : zS} {Kv40 : zS × Nat × Nat × Nat × Int32 × Int32 → Option (zS)} {K40 : zS × Nat × Nat × Nat × Int32 × Int32 → Option (zS)} (hK40 : ∀ (S : zS) (Sr : zS) (x0 : Nat) (x1 : Nat) (x2 : Nat) (x3 : Int32) (x4 : Int32), zR rows lm u z S Sr → zn rows x0 → zn rows x1 → zn rows x2 → Kv40 (S, x0, x1, x2, x3, x4) = some T → zw (K40 (Sr, x0, x1, x2, x3, x4)) (sV rows lm u z T)) {Kv90 : zS × Nat × Nat × Nat × Int32 × Int32 × Int32 → Option (zS)} {K90 : zS × Nat × Nat × Nat × Int32 × Int32 × Int32 → Option (zS)} (hK90 : ∀ (S : zS) (Sr : zS) (x0 : Nat) (x1 : Nat) (x2 : Nat) (x3 : Int32) (x4 : Int32) (x6 : Int32), zR rows lm u z S Sr → zn rows x0 → zn rows x1 → zn rows x2 → Kv90 (S, x0, x1, x2, x3, x4, x6) = some T → zw (K90 (Sr, x0, x1, x2, x3, x4, x6)) (sV rows lm u z T)) {S : zS} {Sr : zS} {x0 : Nat} {x1 : Nat} {x2 : Nat} {x3 : Int32} {x4 : Int32} {x6 : Int32} (hR : zR rows lm u z S Sr) (nx0 : zn rows x0) (nx1 : zn rows x1) (nx2 : zn rows x2) (h : fX0_chooseMoves_90 N Kv40 Kv90 S x0 x1 x2 x3 x4 x6 = some T) : zw (rX0_chooseMoves_90 N K40 K90 Sr x0 x1 x2 x3 x4 x6) (sV rows lm u z T) := by
  unfold fX0_chooseMoves_90 at h
  unfold rX0_chooseMoves_90
  by_cases c : x6 < x3
  · have h := (if_pos c).symm.trans h
    refine zw.t c ?_
    exact hK40 _ _ _ _ _ _ _ hR nx0 nx1 nx2 h
  · have h := (if_neg c).symm.trans h
    refine zw.f c ?_
    obtain ⟨v3, ev3, h⟩ := zb_some h
    obtain ⟨bv3, qv3, pv3⟩ := hR.gb ev3
    refine zw.e qv3 ?_
    obtain ⟨v4, ev4, h⟩ := zb_some h
    refine zw.e (hR.ib pv3 ev4) ?_
    obtain ⟨v5, ev5, h⟩ := zb_some h
    obtain ⟨bv5, qv5, pv5⟩ := hR.gb ev5
    refine zw.e qv5 ?_
    obtain ⟨v6, ev6, h⟩ := zb_some h
    refine zw.e (hR.ib pv5 ev6) ?_
    by_cases c : v4 = v6
    · have h := (if_pos c).symm.trans h
      refine zw.t c ?_
      exact sX0_chooseMoves_123 hK40 hK90  hR nx0 nx1 nx2 nx0 h
    · have h := (if_neg c).symm.trans h
      refine zw.f c ?_
      exact sX0_chooseMoves_123 hK40 hK90  hR nx0 nx1 nx2 nx0 h
set_option maxRecDepth 100000 in
set_option maxHeartbeats 4000000 in
theorem tX0_chooseMoves_90 {N : Nat} {z : Nat} {T : zS} {Kv40 : zS × Nat × Nat × Nat × Int32 × Int32 → Option (zS)} {K40 : zS × Nat × Nat × Nat × Int32 × Int32 → Option (zS)} (hK40 : ∀ (S : zS) (Sr : zS) (x0 : Nat) (x1 : Nat) (x2 : Nat) (x3 : Int32) (x4 : Int32), zR rows lm u z S Sr → zn rows x0 → zn rows x1 → zn rows x2 → Kv40 (S, x0, x1, x2, x3, x4) = some T → zw (K40 (Sr, x0, x1, x2, x3, x4)) (sV rows lm u z T)) {S : zS} {Sr : zS} {x0 : Nat} {x1 : Nat} {x2 : Nat} {x3 : Int32} {x4 : Int32} {x6 : Int32} (hR : zR rows lm u z S Sr) (nx0 : zn rows x0) (nx1 : zn rows x1) (nx2 : zn rows x2) (h : lX0_chooseMoves_90 N Kv40 S x0 x1 x2 x3 x4 x6 = some T) : zw (rlX0_chooseMoves_90 N K40 Sr x0 x1 x2 x3 x4 x6) (sV rows lm u z T) := by
  unfold lX0_chooseMoves_90 at h
  unfold rlX0_chooseMoves_90
  refine zl_sim (I := fun y y' => ∃ (S : zS) (Sr : zS) (x0 : Nat) (x1 : Nat) (x2 : Nat) (x3 : Int32) (x4 : Int32) (x6 : Int32), y = (S, x0, x1, x2, x3, x4, x6) ∧ y' = (Sr, x0, x1, x2, x3, x4, x6) ∧ zR rows lm u z S Sr ∧ zn rows x0 ∧ zn rows x1 ∧ zn rows x2) (Q := fun y' => (sV rows lm u z T)) ?_ N _ _ ⟨S, Sr, x0, x1, x2, x3, x4, x6, rfl, rfl, hR, nx0, nx1, nx2⟩ h
  rintro K K' hK y y' ⟨S, Sr, x0, x1, x2, x3, x4, x6, rfl, rfl, hR, nx0, nx1, nx2⟩ h
  exact sX0_chooseMoves_90 hK40 (fun S Sr x0 x1 x2 x3 x4 x6 hR nx0 nx1 nx2 h => hK _ _ ⟨S, Sr, x0, x1, x2, x3, x4, x6, rfl, rfl, hR, nx0, nx1, nx2⟩ h) hR nx0 nx1 nx2 h
set_option maxRecDepth 100000 in
set_option maxHeartbeats 4000000 in
theorem sX0_chooseMoves_40 {N : Nat} {z : Nat} {T : zS} {Kv40 : zS × Nat × Nat × Nat × Int32 × Int32 → Option (zS)} {K40 : zS × Nat × Nat × Nat × Int32 × Int32 → Option (zS)} (hK40 : ∀ (S : zS) (Sr : zS) (x0 : Nat) (x1 : Nat) (x2 : Nat) (x3 : Int32) (x4 : Int32), zR rows lm u z S Sr → zn rows x0 → zn rows x1 → zn rows x2 → Kv40 (S, x0, x1, x2, x3, x4) = some T → zw (K40 (Sr, x0, x1, x2, x3, x4)) (sV rows lm u z T)) {S : zS} {Sr : zS} {x0 : Nat} {x1 : Nat} {x2 : Nat} {x3 : Int32} {x4 : Int32} (hR : zR rows lm u z S Sr) (nx0 : zn rows x0) (nx1 : zn rows x1) (nx2 : zn rows x2) (h : fX0_chooseMoves_40 N Kv40 S x0 x1 x2 x3 x4 = some T) : zw (rX0_chooseMoves_40 N K40 Sr x0 x1 x2 x3 x4) (sV rows lm u z T) := by
  unfold fX0_chooseMoves_40 at h
  unfold rX0_chooseMoves_40
  by_cases c : x4 < x3
  · have h := (if_pos c).symm.trans h
    refine zw.t c ?_
    cases h
    exact zw.s hR
  · have h := (if_neg c).symm.trans h
    refine zw.f c ?_
    obtain ⟨v7, ev7, h⟩ := zb_some h
    have nv7 := hR.gn (by decide) ev7
    refine zw.e (hR.gr (by decide) ev7) ?_
    obtain ⟨v8, ev8, h⟩ := zb_some h
    have nv8 := hR.gn (by decide) ev8
    refine zw.e (hR.gr (by decide) ev8) ?_
    obtain ⟨S9, eS9, h⟩ := zb_some h
    obtain ⟨S9r, qS9, hR⟩ := hR.pr (by decide) nv8 eS9
    refine zw.e qS9 ?_
    obtain ⟨S10, eS10, h⟩ := zb_some h
    obtain ⟨S10r, qS10, hR⟩ := hR.pr (by decide) nv7 eS10
    refine zw.e qS10 ?_
    obtain ⟨v11, ev11, h⟩ := zb_some h
    have nv11 := hR.gn (by decide) ev11
    refine zw.e (hR.gr (by decide) ev11) ?_
    obtain ⟨v12, ev12, h⟩ := zb_some h
    refine zw.e (hR.gz ev12) ?_
    obtain ⟨v13, ev13, h⟩ := zb_some h
    refine zw.e (hR.gz ev13) ?_
    obtain ⟨S14, eS14, h⟩ := zb_some h
    obtain ⟨S14r, qS14, hR⟩ := hR.is nv11 eS14
    refine zw.e qS14 ?_
    obtain ⟨v15, ev15, h⟩ := zb_some h
    refine zw.e (hR.gz ev15) ?_
    exact tX0_chooseMoves_90 hK40  hR nx0 nx1 nx2 h
set_option maxRecDepth 100000 in
set_option maxHeartbeats 4000000 in
theorem tX0_chooseMoves_40 {N : Nat} {z : Nat} {T : zS}  {S : zS} {Sr : zS} {x0 : Nat} {x1 : Nat} {x2 : Nat} {x3 : Int32} {x4 : Int32} (hR : zR rows lm u z S Sr) (nx0 : zn rows x0) (nx1 : zn rows x1) (nx2 : zn rows x2) (h : lX0_chooseMoves_40 N S x0 x1 x2 x3 x4 = some T) : zw (rlX0_chooseMoves_40 N Sr x0 x1 x2 x3 x4) (sV rows lm u z T) := by
  unfold lX0_chooseMoves_40 at h
  unfold rlX0_chooseMoves_40
  refine zl_sim (I := fun y y' => ∃ (S : zS) (Sr : zS) (x0 : Nat) (x1 : Nat) (x2 : Nat) (x3 : Int32) (x4 : Int32), y = (S, x0, x1, x2, x3, x4) ∧ y' = (Sr, x0, x1, x2, x3, x4) ∧ zR rows lm u z S Sr ∧ zn rows x0 ∧ zn rows x1 ∧ zn rows x2) (Q := fun y' => (sV rows lm u z T)) ?_ N _ _ ⟨S, Sr, x0, x1, x2, x3, x4, rfl, rfl, hR, nx0, nx1, nx2⟩ h
  rintro K K' hK y y' ⟨S, Sr, x0, x1, x2, x3, x4, rfl, rfl, hR, nx0, nx1, nx2⟩ h
  exact sX0_chooseMoves_40 (fun S Sr x0 x1 x2 x3 x4 hR nx0 nx1 nx2 h => hK _ _ ⟨S, Sr, x0, x1, x2, x3, x4, rfl, rfl, hR, nx0, nx1, nx2⟩ h) hR nx0 nx1 nx2 h
set_option maxRecDepth 100000 in
set_option maxHeartbeats 4000000 in
theorem sX0_chooseMoves_3 {N : Nat} {z : Nat} {T : zS} {Kv3 : zS × Nat × Nat × Nat × Int32 × Int32 → Option (zS)} {K3 : zS × Nat × Nat × Nat × Int32 × Int32 → Option (zS)} (hK3 : ∀ (S : zS) (Sr : zS) (x0 : Nat) (x1 : Nat) (x2 : Nat) (x3 : Int32) (x4 : Int32), zR rows lm u z S Sr → zn rows x0 → zn rows x1 → zn rows x2 → Kv3 (S, x0, x1, x2, x3, x4) = some T → zw (K3 (Sr, x0, x1, x2, x3, x4)) (sV rows lm u z T)) {S : zS} {Sr : zS} {x0 : Nat} {x1 : Nat} {x2 : Nat} {x3 : Int32} {x4 : Int32} (hR : zR rows lm u z S Sr) (nx0 : zn rows x0) (nx1 : zn rows x1) (nx2 : zn rows x2) (h : fX0_chooseMoves_3 N Kv3 S x0 x1 x2 x3 x4 = some T) : zw (rX0_chooseMoves_3 N K3 Sr x0 x1 x2 x3 x4) (sV rows lm u z T) := by
  unfold fX0_chooseMoves_3 at h
  unfold rX0_chooseMoves_3
  obtain ⟨v16, ev16, h⟩ := zb_some h
  refine zw.e (hR.gz ev16) ?_
  by_cases c : v16 < x4
  · have h := (if_pos c).symm.trans h
    refine zw.t c ?_
    obtain ⟨v17, ev17, h⟩ := zb_some h
    refine zw.e (hR.gz ev17) ?_
    exact tX0_chooseMoves_40  hR nx0 nx1 nx2 h
  · have h := (if_neg c).symm.trans h
    refine zw.f c ?_
    obtain ⟨v18, ev18, h⟩ := zb_some h
    have nv18 := hR.gn (by decide) ev18
    refine zw.e (hR.gr (by decide) ev18) ?_
    obtain ⟨v19, ev19, h⟩ := zb_some h
    refine zw.e (hR.gz ev19) ?_
    obtain ⟨S20, eS20, h⟩ := zb_some h
    obtain ⟨S20r, qS20, hR⟩ := hR.is nv18 eS20
    refine zw.e qS20 ?_
    exact hK3 _ _ _ _ _ _ _ hR nx0 nx1 nx2 h
set_option maxRecDepth 100000 in
set_option maxHeartbeats 4000000 in
theorem tX0_chooseMoves_3 {N : Nat} {z : Nat} {T : zS}  {S : zS} {Sr : zS} {x0 : Nat} {x1 : Nat} {x2 : Nat} {x3 : Int32} {x4 : Int32} (hR : zR rows lm u z S Sr) (nx0 : zn rows x0) (nx1 : zn rows x1) (nx2 : zn rows x2) (h : lX0_chooseMoves_3 N S x0 x1 x2 x3 x4 = some T) : zw (rlX0_chooseMoves_3 N Sr x0 x1 x2 x3 x4) (sV rows lm u z T) := by
  unfold lX0_chooseMoves_3 at h
  unfold rlX0_chooseMoves_3
  refine zl_sim (I := fun y y' => ∃ (S : zS) (Sr : zS) (x0 : Nat) (x1 : Nat) (x2 : Nat) (x3 : Int32) (x4 : Int32), y = (S, x0, x1, x2, x3, x4) ∧ y' = (Sr, x0, x1, x2, x3, x4) ∧ zR rows lm u z S Sr ∧ zn rows x0 ∧ zn rows x1 ∧ zn rows x2) (Q := fun y' => (sV rows lm u z T)) ?_ N _ _ ⟨S, Sr, x0, x1, x2, x3, x4, rfl, rfl, hR, nx0, nx1, nx2⟩ h
  rintro K K' hK y y' ⟨S, Sr, x0, x1, x2, x3, x4, rfl, rfl, hR, nx0, nx1, nx2⟩ h
  exact sX0_chooseMoves_3 (fun S Sr x0 x1 x2 x3 x4 hR nx0 nx1 nx2 h => hK _ _ ⟨S, Sr, x0, x1, x2, x3, x4, rfl, rfl, hR, nx0, nx1, nx2⟩ h) hR nx0 nx1 nx2 h
set_option maxRecDepth 100000 in
set_option maxHeartbeats 4000000 in
theorem sX0_chooseMoves_0 {N : Nat} {z : Nat} {T : zS}  {S : zS} {Sr : zS} {x0 : Nat} {x1 : Nat} {x2 : Nat} {x3 : Int32} (hR : zR rows lm u z S Sr) (nx0 : zn rows x0) (nx1 : zn rows x1) (nx2 : zn rows x2) (h : fX0_chooseMoves_0 N S x0 x1 x2 x3 = some T) : zw (rX0_chooseMoves_0 N Sr x0 x1 x2 x3) (sV rows lm u z T) := by
  unfold fX0_chooseMoves_0 at h
  unfold rX0_chooseMoves_0
  exact tX0_chooseMoves_3  hR nx0 nx1 nx2 h
theorem sX0_chooseMoves {N : Nat} {z : Nat} {T : zS} {S : zS} {Sr : zS} {x0 : Nat} {x1 : Nat} {x2 : Nat} {x3 : Int32} (hR : zR rows lm u z S Sr) (nx0 : zn rows x0) (nx1 : zn rows x1) (nx2 : zn rows x2) (h : fX0_chooseMoves N S x0 x1 x2 x3 = some T) : zw (rX0_chooseMoves N Sr x0 x1 x2 x3) (sV rows lm u z T) := sX0_chooseMoves_0 hR nx0 nx1 nx2 h
set_option maxRecDepth 100000 in
set_option maxHeartbeats 4000000 in
theorem sX0_moveAt_0 {N : Nat} {z : Nat} {r : Int32} {T : zS}  {S : zS} {Sr : zS} {x0 : Nat} {x1 : Nat} {x2 : Nat} {x3 : Int32} {x4 : Int32} (hR : zR rows lm u z S Sr) (nx0 : zn rows x0) (nx1 : zn rows x1) (nx2 : zn rows x2) (h : fX0_moveAt_0 N S x0 x1 x2 x3 x4 = some (r, T)) : zw (rX0_moveAt_0 N Sr x0 x1 x2 x3 x4) (sQ rows lm u z r T) := by
  unfold fX0_moveAt_0 at h
  unfold rX0_moveAt_0
  obtain ⟨v1, ev1, h⟩ := zb_some h
  refine zw.e (hR.gz ev1) ?_
  by_cases c : x3 < v1
  · have h := (if_pos c).symm.trans h
    refine zw.t c ?_
    obtain ⟨v2, ev2, h⟩ := zb_some h
    refine zw.e (hR.gz ev2) ?_
    by_cases c : x4 < v2
    · have h := (if_pos c).symm.trans h
      refine zw.t c ?_
      obtain ⟨v3, ev3, h⟩ := zb_some h
      have nv3 := hR.gn (by decide) ev3
      refine zw.e (hR.gr (by decide) ev3) ?_
      obtain ⟨v4, ev4, h⟩ := zb_some h
      refine zw.e (hR.il nv3 ev4) ?_
      cases h
      exact zw.s ⟨rfl, hR⟩
    · have h := (if_neg c).symm.trans h
      refine zw.f c ?_
      cases h
      exact zw.s ⟨rfl, hR⟩
  · have h := (if_neg c).symm.trans h
    refine zw.f c ?_
    cases h
    exact zw.s ⟨rfl, hR⟩
theorem sX0_moveAt {N : Nat} {z : Nat} {r : Int32} {T : zS} {S : zS} {Sr : zS} {x0 : Nat} {x1 : Nat} {x2 : Nat} {x3 : Int32} {x4 : Int32} (hR : zR rows lm u z S Sr) (nx0 : zn rows x0) (nx1 : zn rows x1) (nx2 : zn rows x2) (h : fX0_moveAt N S x0 x1 x2 x3 x4 = some (r, T)) : zw (rX0_moveAt N Sr x0 x1 x2 x3 x4) (sQ rows lm u z r T) := sX0_moveAt_0 hR nx0 nx1 nx2 h
set_option maxRecDepth 100000 in
set_option maxHeartbeats 4000000 in
theorem sX0_note_50 {N : Nat} {z : Nat} {T : zS}  {S : zS} {Sr : zS} (hR : zR rows lm u z S Sr) (h : fX0_note_50 N S = some T) : zw (rX0_note_50 N Sr) (sV rows lm u z T) := by
  unfold fX0_note_50 at h
  unfold rX0_note_50
  cases h
  exact zw.s hR
set_option maxRecDepth 100000 in
set_option maxHeartbeats 4000000 in
theorem sX0_note_0 {N : Nat} {z : Nat} {T : zS}  {S : zS} {Sr : zS} {x0 : Nat} {x1 : Int32} {x2 : Int32} {x3 : Int32} (hR : zR rows lm u z S Sr) (nx0 : zn rows x0) (h : fX0_note_0 N S x0 x1 x2 x3 = some T) : zw (rX0_note_0 N Sr x0 x1 x2 x3) (sV rows lm u z T) := by
  unfold fX0_note_0 at h
  unfold rX0_note_0
  obtain ⟨v1, ev1, h⟩ := zb_some h
  refine zw.e (hR.gi (by decide) ev1) ?_
  by_cases c : (200 : Int32) ≤ v1
  · have h := (if_pos c).symm.trans h
    refine zw.t c ?_
    exact sX0_note_50  hR h
  · have h := (if_neg c).symm.trans h
    refine zw.f c ?_
    obtain ⟨v2, ev2, h⟩ := zb_some h
    have nv2 := hR.gn (by decide) ev2
    refine zw.e (hR.gr (by decide) ev2) ?_
    obtain ⟨v3, ev3, h⟩ := zb_some h
    refine zw.e (hR.gi (by decide) ev3) ?_
    obtain ⟨S4, eS4, h⟩ := zb_some h
    obtain ⟨S4r, qS4, hR⟩ := hR.is nv2 eS4
    refine zw.e qS4 ?_
    obtain ⟨v5, ev5, h⟩ := zb_some h
    have nv5 := hR.gn (by decide) ev5
    refine zw.e (hR.gr (by decide) ev5) ?_
    obtain ⟨v6, ev6, h⟩ := zb_some h
    refine zw.e (hR.gi (by decide) ev6) ?_
    obtain ⟨S7, eS7, h⟩ := zb_some h
    obtain ⟨S7r, qS7, hR⟩ := hR.is nv5 eS7
    refine zw.e qS7 ?_
    obtain ⟨v8, ev8, h⟩ := zb_some h
    have nv8 := hR.gn (by decide) ev8
    refine zw.e (hR.gr (by decide) ev8) ?_
    obtain ⟨v9, ev9, h⟩ := zb_some h
    refine zw.e (hR.gi (by decide) ev9) ?_
    obtain ⟨S10, eS10, h⟩ := zb_some h
    obtain ⟨S10r, qS10, hR⟩ := hR.is nv8 eS10
    refine zw.e qS10 ?_
    obtain ⟨v11, ev11, h⟩ := zb_some h
    refine zw.e (hR.gi (by decide) ev11) ?_
    obtain ⟨S12, eS12, h⟩ := zb_some h
    obtain ⟨S12r, qS12, hR⟩ := hR.pi (by decide) eS12
    refine zw.e qS12 ?_
    exact sX0_note_50  hR h
theorem sX0_note {N : Nat} {z : Nat} {T : zS} {S : zS} {Sr : zS} {x0 : Nat} {x1 : Int32} {x2 : Int32} {x3 : Int32} (hR : zR rows lm u z S Sr) (nx0 : zn rows x0) (h : fX0_note N S x0 x1 x2 x3 = some T) : zw (rX0_note N Sr x0 x1 x2 x3) (sV rows lm u z T) := sX0_note_0 hR nx0 h
set_option maxRecDepth 100000 in
set_option maxHeartbeats 4000000 in
theorem sX0_follow_121 {N : Nat} {z : Nat} {T : zS}  {S : zS} {Sr : zS} (hR : zR rows lm u z S Sr) (h : fX0_follow_121 N S = some T) : zw (rX0_follow_121 N Sr) (sV rows lm u z T) := by
  unfold fX0_follow_121 at h
  unfold rX0_follow_121
  cases h
  exact zw.s hR
set_option maxRecDepth 100000 in
set_option maxHeartbeats 4000000 in
theorem sX0_follow_112 {N : Nat} {z : Nat} {T : zS} {Kv14 : zS × Nat × Nat × Nat × Int32 × Int32 × Int32 → Option (zS)} {K14 : zS × Nat × Nat × Nat × Int32 × Int32 × Int32 → Option (zS)} (hK14 : ∀ (S : zS) (Sr : zS) (x0 : Nat) (x1 : Nat) (x2 : Nat) (x4 : Int32) (x5 : Int32) (x6 : Int32), zR rows lm u z S Sr → zn rows x0 → zn rows x1 → zn rows x2 → Kv14 (S, x0, x1, x2, x4, x5, x6) = some T → zw (K14 (Sr, x0, x1, x2, x4, x5, x6)) (sV rows lm u z T)) {S : zS} {Sr : zS} {x0 : Nat} {x1 : Nat} {x2 : Nat} {x4 : Int32} {x6 : Int32} {y0 : Int32} {y1 : Int32} (hR : zR rows lm u z S Sr) (nx0 : zn rows x0) (nx1 : zn rows x1) (nx2 : zn rows x2) (h : fX0_follow_112 N Kv14 S x0 x1 x2 x4 x6 y0 y1 = some T) : zw (rX0_follow_112 N K14 Sr x0 x1 x2 x4 x6 y0 y1) (sV rows lm u z T) := by
  unfold fX0_follow_112 at h
  unfold rX0_follow_112
  exact hK14 _ _ _ _ _ _ _ _ hR nx0 nx1 nx2 h
set_option maxRecDepth 100000 in
set_option maxHeartbeats 4000000 in
theorem sX0_follow_96 {N : Nat} {z : Nat} {T : zS} {Kv14 : zS × Nat × Nat × Nat × Int32 × Int32 × Int32 → Option (zS)} {K14 : zS × Nat × Nat × Nat × Int32 × Int32 × Int32 → Option (zS)} (hK14 : ∀ (S : zS) (Sr : zS) (x0 : Nat) (x1 : Nat) (x2 : Nat) (x4 : Int32) (x5 : Int32) (x6 : Int32), zR rows lm u z S Sr → zn rows x0 → zn rows x1 → zn rows x2 → Kv14 (S, x0, x1, x2, x4, x5, x6) = some T → zw (K14 (Sr, x0, x1, x2, x4, x5, x6)) (sV rows lm u z T)) {S : zS} {Sr : zS} {x0 : Nat} {x1 : Nat} {x2 : Nat} {x5 : Int32} {x6 : Int32} {x7 : Int32} {y0 : Int32} {y1 : Int32} (hR : zR rows lm u z S Sr) (nx0 : zn rows x0) (nx1 : zn rows x1) (nx2 : zn rows x2) (h : fX0_follow_96 N Kv14 S x0 x1 x2 x5 x6 x7 y0 y1 = some T) : zw (rX0_follow_96 N K14 Sr x0 x1 x2 x5 x6 x7 y0 y1) (sV rows lm u z T) := by
  unfold fX0_follow_96 at h
  unfold rX0_follow_96
  by_cases c : x7 = (1 : Int32)
  · have h := (if_pos c).symm.trans h
    refine zw.t c ?_
    exact sX0_follow_112 hK14  hR nx0 nx1 nx2 h
  · have h := (if_neg c).symm.trans h
    refine zw.f c ?_
    exact sX0_follow_112 hK14  hR nx0 nx1 nx2 h
set_option maxRecDepth 100000 in
set_option maxHeartbeats 4000000 in
theorem sX0_follow_83 {N : Nat} {z : Nat} {T : zS} {Kv14 : zS × Nat × Nat × Nat × Int32 × Int32 × Int32 → Option (zS)} {K14 : zS × Nat × Nat × Nat × Int32 × Int32 × Int32 → Option (zS)} (hK14 : ∀ (S : zS) (Sr : zS) (x0 : Nat) (x1 : Nat) (x2 : Nat) (x4 : Int32) (x5 : Int32) (x6 : Int32), zR rows lm u z S Sr → zn rows x0 → zn rows x1 → zn rows x2 → Kv14 (S, x0, x1, x2, x4, x5, x6) = some T → zw (K14 (Sr, x0, x1, x2, x4, x5, x6)) (sV rows lm u z T)) {S : zS} {Sr : zS} {x0 : Nat} {x1 : Nat} {x2 : Nat} {x4 : Int32} {x5 : Int32} {x6 : Int32} {x7 : Int32} (hR : zR rows lm u z S Sr) (nx0 : zn rows x0) (nx1 : zn rows x1) (nx2 : zn rows x2) (h : fX0_follow_83 N Kv14 S x0 x1 x2 x4 x5 x6 x7 = some T) : zw (rX0_follow_83 N K14 Sr x0 x1 x2 x4 x5 x6 x7) (sV rows lm u z T) := by
  unfold fX0_follow_83 at h
  unfold rX0_follow_83
  by_cases c : x7 = (2 : Int32)
  · have h := (if_pos c).symm.trans h
    refine zw.t c ?_
    exact sX0_follow_96 hK14  hR nx0 nx1 nx2 h
  · have h := (if_neg c).symm.trans h
    refine zw.f c ?_
    exact sX0_follow_96 hK14  hR nx0 nx1 nx2 h
set_option maxRecDepth 100000 in
set_option maxHeartbeats 4000000 in
theorem sX0_follow_80 {N : Nat} {z : Nat} {T : zS} {Kv14 : zS × Nat × Nat × Nat × Int32 × Int32 × Int32 → Option (zS)} {K14 : zS × Nat × Nat × Nat × Int32 × Int32 × Int32 → Option (zS)} (hK14 : ∀ (S : zS) (Sr : zS) (x0 : Nat) (x1 : Nat) (x2 : Nat) (x4 : Int32) (x5 : Int32) (x6 : Int32), zR rows lm u z S Sr → zn rows x0 → zn rows x1 → zn rows x2 → Kv14 (S, x0, x1, x2, x4, x5, x6) = some T → zw (K14 (Sr, x0, x1, x2, x4, x5, x6)) (sV rows lm u z T)) {S : zS} {Sr : zS} {x0 : Nat} {x1 : Nat} {x2 : Nat} {x4 : Int32} {x5 : Int32} {x6 : Int32} {x7 : Int32} {y0 : Nat} {y1 : Int32} {y2 : Int32} {y3 : Int32} (hR : zR rows lm u z S Sr) (nx0 : zn rows x0) (nx1 : zn rows x1) (nx2 : zn rows x2) (ny0 : zn rows y0) (h : fX0_follow_80 N Kv14 S x0 x1 x2 x4 x5 x6 x7 y0 y1 y2 y3 = some T) : zw (rX0_follow_80 N K14 Sr x0 x1 x2 x4 x5 x6 x7 y0 y1 y2 y3) (sV rows lm u z T) := by
  unfold fX0_follow_80 at h
  unfold rX0_follow_80
  obtain ⟨u1, eu1, h⟩ := zb_some h
  refine zw.e (hR.rc eu1) ?_
  obtain ⟨S2, eS2, h⟩ := zb_some h
  refine zw.c (sX0_note hR ny0 eS2) (fun S2r hR => ?_)
  exact sX0_follow_83 hK14  hR nx0 nx1 nx2 h
set_option maxRecDepth 100000 in
set_option maxHeartbeats 4000000 in
theorem sX0_follow_40 {N : Nat} {z : Nat} {T : zS} {Kv14 : zS × Nat × Nat × Nat × Int32 × Int32 × Int32 → Option (zS)} {K14 : zS × Nat × Nat × Nat × Int32 × Int32 × Int32 → Option (zS)} (hK14 : ∀ (S : zS) (Sr : zS) (x0 : Nat) (x1 : Nat) (x2 : Nat) (x4 : Int32) (x5 : Int32) (x6 : Int32), zR rows lm u z S Sr → zn rows x0 → zn rows x1 → zn rows x2 → Kv14 (S, x0, x1, x2, x4, x5, x6) = some T → zw (K14 (Sr, x0, x1, x2, x4, x5, x6)) (sV rows lm u z T)) {S : zS} {Sr : zS} {x0 : Nat} {x1 : Nat} {x2 : Nat} {x4 : Int32} {x5 : Int32} {x6 : Int32} (hR : zR rows lm u z S Sr) (nx0 : zn rows x0) (nx1 : zn rows x1) (nx2 : zn rows x2) (h : fX0_follow_40 N Kv14 S x0 x1 x2 x4 x5 x6 = some T) : zw (rX0_follow_40 N K14 Sr x0 x1 x2 x4 x5 x6) (sV rows lm u z T) := by
  unfold fX0_follow_40 at h
  unfold rX0_follow_40
  obtain ⟨u3, eu3, h⟩ := zb_some h
  refine zw.e (hR.rc eu3) ?_
  obtain ⟨v5, S4, eS4, h⟩ := zb2_some h
  refine sc2 (sX0_moveAt hR nx0 nx1 nx2 eS4) (fun S4r hR => ?_)
  by_cases c : v5 = (3 : Int32)
  · have h := (if_pos c).symm.trans h
    refine zw.t c ?_
    exact sX0_follow_83 hK14  hR nx0 nx1 nx2 h
  · have h := (if_neg c).symm.trans h
    refine zw.f c ?_
    by_cases c : v5 = (1 : Int32)
    · have h := (if_pos c).symm.trans h
      refine zw.t c ?_
      exact sX0_follow_80 hK14  hR nx0 nx1 nx2 nx0 h
    · have h := (if_neg c).symm.trans h
      refine zw.f c ?_
      obtain ⟨v6, ev6, h⟩ := zb_some h
      obtain ⟨bv6, qv6, pv6⟩ := hR.gb ev6
      refine zw.e qv6 ?_
      obtain ⟨v7, ev7, h⟩ := zb_some h
      refine zw.e (hR.ib pv6 ev7) ?_
      exact sX0_follow_80 hK14  hR nx0 nx1 nx2 nx0 h
set_option maxRecDepth 100000 in
set_option maxHeartbeats 4000000 in
theorem sX0_follow_14 {N : Nat} {z : Nat} {T : zS} {Kv14 : zS × Nat × Nat × Nat × Int32 × Int32 × Int32 → Option (zS)} {K14 : zS × Nat × Nat × Nat × Int32 × Int32 × Int32 → Option (zS)} (hK14 : ∀ (S : zS) (Sr : zS) (x0 : Nat) (x1 : Nat) (x2 : Nat) (x4 : Int32) (x5 : Int32) (x6 : Int32), zR rows lm u z S Sr → zn rows x0 → zn rows x1 → zn rows x2 → Kv14 (S, x0, x1, x2, x4, x5, x6) = some T → zw (K14 (Sr, x0, x1, x2, x4, x5, x6)) (sV rows lm u z T)) {S : zS} {Sr : zS} {x0 : Nat} {x1 : Nat} {x2 : Nat} {x4 : Int32} {x5 : Int32} {x6 : Int32} (hR : zR rows lm u z S Sr) (nx0 : zn rows x0) (nx1 : zn rows x1) (nx2 : zn rows x2) (h : fX0_follow_14 N Kv14 S x0 x1 x2 x4 x5 x6 = some T) : zw (rX0_follow_14 N K14 Sr x0 x1 x2 x4 x5 x6) (sV rows lm u z T) := by
  unfold fX0_follow_14 at h
  unfold rX0_follow_14
  by_cases c : (400 : Int32) ≤ x6
  · have h := (if_pos c).symm.trans h
    refine zw.t c ?_
    exact sX0_follow_121  hR h
  · have h := (if_neg c).symm.trans h
    refine zw.f c ?_
    obtain ⟨v8, ev8, h⟩ := zb_some h
    refine zw.e (hR.gz ev8) ?_
    by_cases c : x4 < v8
    · have h := (if_pos c).symm.trans h
      refine zw.t c ?_
      exact sX0_follow_40 hK14  hR nx0 nx1 nx2 h
    · have h := (if_neg c).symm.trans h
      refine zw.f c ?_
      obtain ⟨v9, ev9, h⟩ := zb_some h
      refine zw.e (hR.gz ev9) ?_
      by_cases c : v9 ≤ x5
      · have h := (if_pos c).symm.trans h
        refine zw.t c ?_
        exact sX0_follow_121  hR h
      · have h := (if_neg c).symm.trans h
        refine zw.f c ?_
        exact sX0_follow_40 hK14  hR nx0 nx1 nx2 h
set_option maxRecDepth 100000 in
set_option maxHeartbeats 4000000 in
theorem tX0_follow_14 {N : Nat} {z : Nat} {T : zS}  {S : zS} {Sr : zS} {x0 : Nat} {x1 : Nat} {x2 : Nat} {x4 : Int32} {x5 : Int32} {x6 : Int32} (hR : zR rows lm u z S Sr) (nx0 : zn rows x0) (nx1 : zn rows x1) (nx2 : zn rows x2) (h : lX0_follow_14 N S x0 x1 x2 x4 x5 x6 = some T) : zw (rlX0_follow_14 N Sr x0 x1 x2 x4 x5 x6) (sV rows lm u z T) := by
  unfold lX0_follow_14 at h
  unfold rlX0_follow_14
  refine zl_sim (I := fun y y' => ∃ (S : zS) (Sr : zS) (x0 : Nat) (x1 : Nat) (x2 : Nat) (x4 : Int32) (x5 : Int32) (x6 : Int32), y = (S, x0, x1, x2, x4, x5, x6) ∧ y' = (Sr, x0, x1, x2, x4, x5, x6) ∧ zR rows lm u z S Sr ∧ zn rows x0 ∧ zn rows x1 ∧ zn rows x2) (Q := fun y' => (sV rows lm u z T)) ?_ N _ _ ⟨S, Sr, x0, x1, x2, x4, x5, x6, rfl, rfl, hR, nx0, nx1, nx2⟩ h
  rintro K K' hK y y' ⟨S, Sr, x0, x1, x2, x4, x5, x6, rfl, rfl, hR, nx0, nx1, nx2⟩ h
  exact sX0_follow_14 (fun S Sr x0 x1 x2 x4 x5 x6 hR nx0 nx1 nx2 h => hK _ _ ⟨S, Sr, x0, x1, x2, x4, x5, x6, rfl, rfl, hR, nx0, nx1, nx2⟩ h) hR nx0 nx1 nx2 h
set_option maxRecDepth 100000 in
set_option maxHeartbeats 4000000 in
theorem sX0_follow_0 {N : Nat} {z : Nat} {T : zS}  {S : zS} {Sr : zS} {x0 : Nat} {x1 : Nat} {x2 : Nat} {x3 : Int32} (hR : zR rows lm u z S Sr) (nx0 : zn rows x0) (nx1 : zn rows x1) (nx2 : zn rows x2) (h : fX0_follow_0 N S x0 x1 x2 x3 = some T) : zw (rX0_follow_0 N Sr x0 x1 x2 x3) (sV rows lm u z T) := by
  unfold fX0_follow_0 at h
  unfold rX0_follow_0
  obtain ⟨S10, eS10, h⟩ := zb_some h
  obtain ⟨S10r, qS10, hR⟩ := hR.pi (by decide) eS10
  refine zw.e qS10 ?_
  exact tX0_follow_14  hR nx0 nx1 nx2 h
theorem sX0_follow {N : Nat} {z : Nat} {T : zS} {S : zS} {Sr : zS} {x0 : Nat} {x1 : Nat} {x2 : Nat} {x3 : Int32} (hR : zR rows lm u z S Sr) (nx0 : zn rows x0) (nx1 : zn rows x1) (nx2 : zn rows x2) (h : fX0_follow N S x0 x1 x2 x3 = some T) : zw (rX0_follow N Sr x0 x1 x2 x3) (sV rows lm u z T) := sX0_follow_0 hR nx0 nx1 nx2 h
set_option maxRecDepth 100000 in
set_option maxHeartbeats 4000000 in
theorem sX0_likeAhead_14 {N : Nat} {z : Nat} {r : Int32} {T : zS} {Kv14 : zS × Nat × Nat × Int32 × Int32 → Option (Int32 × zS)} {K14 : zS × Nat × Nat × Int32 × Int32 → Option (Int32 × zS)} (hK14 : ∀ (S : zS) (Sr : zS) (x0 : Nat) (x1 : Nat) (x2 : Int32) (x3 : Int32), zR rows lm u z S Sr → zn rows x0 → zn rows x1 → Kv14 (S, x0, x1, x2, x3) = some (r, T) → zw (K14 (Sr, x0, x1, x2, x3)) (sQ rows lm u z r T)) {S : zS} {Sr : zS} {x0 : Nat} {x1 : Nat} {x2 : Int32} {x3 : Int32} (hR : zR rows lm u z S Sr) (nx0 : zn rows x0) (nx1 : zn rows x1) (h : fX0_likeAhead_14 N Kv14 S x0 x1 x2 x3 = some (r, T)) : zw (rX0_likeAhead_14 N K14 Sr x0 x1 x2 x3) (sQ rows lm u z r T) := by
  unfold fX0_likeAhead_14 at h
  unfold rX0_likeAhead_14
  by_cases c : x2 ≤ x3
  · have h := (if_pos c).symm.trans h
    refine zw.t c ?_
    cases h
    exact zw.s ⟨rfl, hR⟩
  · have h := (if_neg c).symm.trans h
    refine zw.f c ?_
    obtain ⟨v1, ev1, h⟩ := zb_some h
    obtain ⟨bv1, qv1, pv1⟩ := hR.gb ev1
    refine zw.e qv1 ?_
    obtain ⟨v2, ev2, h⟩ := zb_some h
    refine zw.e (hR.ib pv1 ev2) ?_
    obtain ⟨v3, ev3, h⟩ := zb_some h
    obtain ⟨bv3, qv3, pv3⟩ := hR.gb ev3
    refine zw.e qv3 ?_
    obtain ⟨v4, ev4, h⟩ := zb_some h
    refine zw.e (hR.ib pv3 ev4) ?_
    by_cases c : v2 = v4
    · have h := (if_pos c).symm.trans h
      refine zw.t c ?_
      exact hK14 _ _ _ _ _ _ hR nx0 nx1 h
    · have h := (if_neg c).symm.trans h
      refine zw.f c ?_
      cases h
      exact zw.s ⟨rfl, hR⟩
set_option maxRecDepth 100000 in
set_option maxHeartbeats 4000000 in
theorem tX0_likeAhead_14 {N : Nat} {z : Nat} {r : Int32} {T : zS}  {S : zS} {Sr : zS} {x0 : Nat} {x1 : Nat} {x2 : Int32} {x3 : Int32} (hR : zR rows lm u z S Sr) (nx0 : zn rows x0) (nx1 : zn rows x1) (h : lX0_likeAhead_14 N S x0 x1 x2 x3 = some (r, T)) : zw (rlX0_likeAhead_14 N Sr x0 x1 x2 x3) (sQ rows lm u z r T) := by
  unfold lX0_likeAhead_14 at h
  unfold rlX0_likeAhead_14
  refine zl_sim (I := fun y y' => ∃ (S : zS) (Sr : zS) (x0 : Nat) (x1 : Nat) (x2 : Int32) (x3 : Int32), y = (S, x0, x1, x2, x3) ∧ y' = (Sr, x0, x1, x2, x3) ∧ zR rows lm u z S Sr ∧ zn rows x0 ∧ zn rows x1) (Q := fun y' => (sQ rows lm u z r T)) ?_ N _ _ ⟨S, Sr, x0, x1, x2, x3, rfl, rfl, hR, nx0, nx1⟩ h
  rintro K K' hK y y' ⟨S, Sr, x0, x1, x2, x3, rfl, rfl, hR, nx0, nx1⟩ h
  exact sX0_likeAhead_14 (fun S Sr x0 x1 x2 x3 hR nx0 nx1 h => hK _ _ ⟨S, Sr, x0, x1, x2, x3, rfl, rfl, hR, nx0, nx1⟩ h) hR nx0 nx1 h
set_option maxRecDepth 100000 in
set_option maxHeartbeats 4000000 in
theorem sX0_likeAhead_0 {N : Nat} {z : Nat} {r : Int32} {T : zS}  {S : zS} {Sr : zS} {x0 : Nat} {x1 : Nat} (hR : zR rows lm u z S Sr) (nx0 : zn rows x0) (nx1 : zn rows x1) (h : fX0_likeAhead_0 N S x0 x1 = some (r, T)) : zw (rX0_likeAhead_0 N Sr x0 x1) (sQ rows lm u z r T) := by
  unfold fX0_likeAhead_0 at h
  unfold rX0_likeAhead_0
  obtain ⟨v5, ev5, h⟩ := zb_some h
  refine zw.e (hR.gz ev5) ?_
  obtain ⟨v6, ev6, h⟩ := zb_some h
  refine zw.e (hR.gz ev6) ?_
  exact tX0_likeAhead_14  hR nx0 nx1 h
theorem sX0_likeAhead {N : Nat} {z : Nat} {r : Int32} {T : zS} {S : zS} {Sr : zS} {x0 : Nat} {x1 : Nat} (hR : zR rows lm u z S Sr) (nx0 : zn rows x0) (nx1 : zn rows x1) (h : fX0_likeAhead N S x0 x1 = some (r, T)) : zw (rX0_likeAhead N Sr x0 x1) (sQ rows lm u z r T) := sX0_likeAhead_0 hR nx0 nx1 h
set_option maxRecDepth 100000 in
set_option maxHeartbeats 4000000 in
theorem sX0_lay_0 {N : Nat} {z : Nat} {T : zS}  {S : zS} {Sr : zS} {x0 : Nat} {x1 : Nat} {x2 : Nat} (hR : zR rows lm u z S Sr) (nx0 : zn rows x0) (nx1 : zn rows x1) (nx2 : zn rows x2) (h : fX0_lay_0 N S x0 x1 x2 = some T) : zw (rX0_lay_0 N Sr x0 x1 x2) (sV rows lm u z T) := by
  unfold fX0_lay_0 at h
  unfold rX0_lay_0
  obtain ⟨v2, S1, eS1, h⟩ := zb2_some h
  refine sc2 (sX0_likeAhead hR nx1 nx2 eS1) (fun S1r hR => ?_)
  obtain ⟨u3, eu3, h⟩ := zb_some h
  refine zw.e (hR.rc eu3) ?_
  obtain ⟨S4, eS4, h⟩ := zb_some h
  refine zw.c (sX0_chooseMoves hR nx0 nx1 nx2 eS4) (fun S4r hR => ?_)
  obtain ⟨u5, eu5, h⟩ := zb_some h
  refine zw.e (hR.rc eu5) ?_
  obtain ⟨S6, eS6, h⟩ := zb_some h
  refine zw.c (sX0_follow hR nx0 nx1 nx2 eS6) (fun S6r hR => ?_)
  cases h
  exact zw.s hR
theorem sX0_lay {N : Nat} {z : Nat} {T : zS} {S : zS} {Sr : zS} {x0 : Nat} {x1 : Nat} {x2 : Nat} (hR : zR rows lm u z S Sr) (nx0 : zn rows x0) (nx1 : zn rows x1) (nx2 : zn rows x2) (h : fX0_lay N S x0 x1 x2 = some T) : zw (rX0_lay N Sr x0 x1 x2) (sV rows lm u z T) := sX0_lay_0 hR nx0 nx1 nx2 h
set_option maxRecDepth 100000 in
set_option maxHeartbeats 4000000 in
theorem sX1_open_0 {N : Nat} {z : Nat} {T : zS}  {S : zS} {Sr : zS} {x0 : Nat} {x1 : Nat} (hR : zR rows lm u z S Sr) (nx0 : zn rows x0) (nx1 : zn rows x1) (h : fX1_open_0 N S x0 x1 = some T) : zw (rX1_open_0 N Sr x0 x1) (sV rows lm u z T) := by
  unfold fX1_open_0 at h
  unfold rX1_open_0
  obtain ⟨v1, ev1, h⟩ := zb_some h
  have nv1 := hR.gn (by decide) ev1
  refine zw.e (hR.gr (by decide) ev1) ?_
  obtain ⟨S2, eS2, h⟩ := zb_some h
  obtain ⟨S2r, qS2, hR⟩ := hR.cp nx1 nv1 eS2
  refine zw.e qS2 ?_
  obtain ⟨S3, eS3, h⟩ := zb_some h
  obtain ⟨S3r, qS3, hR⟩ := hR.pi (by decide) eS3
  refine zw.e qS3 ?_
  cases h
  exact zw.s hR
theorem sX1_open {N : Nat} {z : Nat} {T : zS} {S : zS} {Sr : zS} {x0 : Nat} {x1 : Nat} (hR : zR rows lm u z S Sr) (nx0 : zn rows x0) (nx1 : zn rows x1) (h : fX1_open N S x0 x1 = some T) : zw (rX1_open N Sr x0 x1) (sV rows lm u z T) := sX1_open_0 hR nx0 nx1 h
set_option maxRecDepth 100000 in
set_option maxHeartbeats 4000000 in
theorem sX4_input_0 {N : Nat} {z : Nat} {r : Int32} {T : zS}  {S : zS} {Sr : zS} {x0 : Nat} {x1 : Int32} {x2 : Int32} (hR : zR rows lm u z S Sr) (nx0 : zn rows x0) (h : fX4_input_0 N S x0 x1 x2 = some (r, T)) : zw (rX4_input_0 N Sr x0 x1 x2) (sQ rows lm u z r T) := by
  unfold fX4_input_0 at h
  unfold rX4_input_0
  obtain ⟨v1, ev1, h⟩ := zb_some h
  have nv1 := hR.gn (by decide) ev1
  refine zw.e (hR.gr (by decide) ev1) ?_
  obtain ⟨v2, ev2, h⟩ := zb_some h
  refine zw.e (hR.il nv1 ev2) ?_
  cases h
  exact zw.s ⟨rfl, hR⟩
theorem sX4_input {N : Nat} {z : Nat} {r : Int32} {T : zS} {S : zS} {Sr : zS} {x0 : Nat} {x1 : Int32} {x2 : Int32} (hR : zR rows lm u z S Sr) (nx0 : zn rows x0) (h : fX4_input N S x0 x1 x2 = some (r, T)) : zw (rX4_input N Sr x0 x1 x2) (sQ rows lm u z r T) := sX4_input_0 hR nx0 h
set_option maxRecDepth 100000 in
set_option maxHeartbeats 4000000 in
theorem sX1_hasGoodInputs_85 {N : Nat} {z : Nat} {r : Int32} {T : zS}  {S : zS} {Sr : zS} {y0 : Int32} (hR : zR rows lm u z S Sr) (h : fX1_hasGoodInputs_85 N S y0 = some (r, T)) : zw (rX1_hasGoodInputs_85 N Sr y0) (sQ rows lm u z r T) := by
  unfold fX1_hasGoodInputs_85 at h
  unfold rX1_hasGoodInputs_85
  cases h
  exact zw.s ⟨rfl, hR⟩
set_option maxRecDepth 100000 in
set_option maxHeartbeats 4000000 in
theorem sX1_hasGoodInputs_62 {N : Nat} {z : Nat} {r : Int32} {T : zS} {Kv2 : zS × Nat × Int32 × Int32 → Option (Int32 × zS)} {K2 : zS × Nat × Int32 × Int32 → Option (Int32 × zS)} (hK2 : ∀ (S : zS) (Sr : zS) (x0 : Nat) (x1 : Int32) (x2 : Int32), zR rows lm u z S Sr → zn rows x0 → Kv2 (S, x0, x1, x2) = some (r, T) → zw (K2 (Sr, x0, x1, x2)) (sQ rows lm u z r T)) {S : zS} {Sr : zS} {x0 : Nat} {x1 : Int32} {x2 : Int32} (hR : zR rows lm u z S Sr) (nx0 : zn rows x0) (h : fX1_hasGoodInputs_62 N Kv2 S x0 x1 x2 = some (r, T)) : zw (rX1_hasGoodInputs_62 N K2 Sr x0 x1 x2) (sQ rows lm u z r T) := by
  unfold fX1_hasGoodInputs_62 at h
  unfold rX1_hasGoodInputs_62
  exact hK2 _ _ _ _ _ hR nx0 h
set_option maxRecDepth 100000 in
set_option maxHeartbeats 4000000 in
theorem sX1_hasGoodInputs_60 {N : Nat} {z : Nat} {r : Int32} {T : zS}  {S : zS} {Sr : zS} (hR : zR rows lm u z S Sr) (h : fX1_hasGoodInputs_60 N S = some (r, T)) : zw (rX1_hasGoodInputs_60 N Sr) (sQ rows lm u z r T) := by
  unfold fX1_hasGoodInputs_60 at h
  unfold rX1_hasGoodInputs_60
  cases h
  exact zw.s ⟨rfl, hR⟩
set_option maxRecDepth 100000 in
set_option maxHeartbeats 4000000 in
theorem sX1_hasGoodInputs_2 {N : Nat} {z : Nat} {r : Int32} {T : zS} {Kv2 : zS × Nat × Int32 × Int32 → Option (Int32 × zS)} {K2 : zS × Nat × Int32 × Int32 → Option (Int32 × zS)} (hK2 : ∀ (S : zS) (Sr : zS) (x0 : Nat) (x1 : Int32) (x2 : Int32), zR rows lm u z S Sr → zn rows x0 → Kv2 (S, x0, x1, x2) = some (r, T) → zw (K2 (Sr, x0, x1, x2)) (sQ rows lm u z r T)) {S : zS} {Sr : zS} {x0 : Nat} {x1 : Int32} {x2 : Int32} (hR : zR rows lm u z S Sr) (nx0 : zn rows x0) (h : fX1_hasGoodInputs_2 N Kv2 S x0 x1 x2 = some (r, T)) : zw (rX1_hasGoodInputs_2 N K2 Sr x0 x1 x2) (sQ rows lm u z r T) := by
  unfold fX1_hasGoodInputs_2 at h
  unfold rX1_hasGoodInputs_2
  obtain ⟨v1, ev1, h⟩ := zb_some h
  have nv1 := hR.gn (by decide) ev1
  refine zw.e (hR.gr (by decide) ev1) ?_
  obtain ⟨v2, ev2, h⟩ := zb_some h
  have nv2 := hR.gn (by decide) ev2
  refine zw.e (hR.gr (by decide) ev2) ?_
  obtain ⟨v3, ev3, h⟩ := zb_some h
  refine zw.e (hR.il nv2 ev3) ?_
  by_cases c : v3 ≤ x2
  · have h := (if_pos c).symm.trans h
    refine zw.t c ?_
    obtain ⟨v4, ev4, h⟩ := zb_some h
    have nv4 := hR.gn (by decide) ev4
    refine zw.e (hR.gr (by decide) ev4) ?_
    obtain ⟨v5, ev5, h⟩ := zb_some h
    have nv5 := hR.gn (by decide) ev5
    refine zw.e (hR.gr (by decide) ev5) ?_
    obtain ⟨v6, ev6, h⟩ := zb_some h
    refine zw.e (hR.il nv5 ev6) ?_
    by_cases c : v6 ≤ (0 : Int32)
    · have h := (if_pos c).symm.trans h
      refine zw.t c ?_
      exact sX1_hasGoodInputs_85  hR h
    · have h := (if_neg c).symm.trans h
      refine zw.f c ?_
      exact sX1_hasGoodInputs_85  hR h
  · have h := (if_neg c).symm.trans h
    refine zw.f c ?_
    obtain ⟨v7, ev7, h⟩ := zb_some h
    have nv7 := hR.gn (by decide) ev7
    refine zw.e (hR.gr (by decide) ev7) ?_
    obtain ⟨u8, eu8, h⟩ := zb_some h
    refine zw.e (hR.rc eu8) ?_
    obtain ⟨v10, S9, eS9, h⟩ := zb2_some h
    refine sc2 (sX4_input hR nv7 eS9) (fun S9r hR => ?_)
    by_cases c : (100 : Int32) ≤ v10
    · have h := (if_pos c).symm.trans h
      refine zw.t c ?_
      obtain ⟨v11, ev11, h⟩ := zb_some h
      have nv11 := hR.gn (by decide) ev11
      refine zw.e (hR.gr (by decide) ev11) ?_
      obtain ⟨v12, ev12, h⟩ := zb_some h
      refine zw.e (hR.zl ev12) ?_
      by_cases c : v12 = (0 : Int32)
      · have h := (if_pos c).symm.trans h
        refine zw.t c ?_
        exact sX1_hasGoodInputs_62 hK2  hR nx0 h
      · have h := (if_neg c).symm.trans h
        refine zw.f c ?_
        exact sX1_hasGoodInputs_60  hR h
    · have h := (if_neg c).symm.trans h
      refine zw.f c ?_
      obtain ⟨v13, ev13, h⟩ := zb_some h
      have nv13 := hR.gn (by decide) ev13
      refine zw.e (hR.gr (by decide) ev13) ?_
      obtain ⟨v14, ev14, h⟩ := zb_some h
      refine zw.e (hR.gi (by decide) ev14) ?_
      by_cases c : ((zush v14 v10) &&& (1 : Int32)) = (0 : Int32)
      · have h := (if_pos c).symm.trans h
        refine zw.t c ?_
        exact sX1_hasGoodInputs_62 hK2  hR nx0 h
      · have h := (if_neg c).symm.trans h
        refine zw.f c ?_
        exact sX1_hasGoodInputs_60  hR h
set_option maxRecDepth 100000 in
set_option maxHeartbeats 4000000 in
theorem tX1_hasGoodInputs_2 {N : Nat} {z : Nat} {r : Int32} {T : zS}  {S : zS} {Sr : zS} {x0 : Nat} {x1 : Int32} {x2 : Int32} (hR : zR rows lm u z S Sr) (nx0 : zn rows x0) (h : lX1_hasGoodInputs_2 N S x0 x1 x2 = some (r, T)) : zw (rlX1_hasGoodInputs_2 N Sr x0 x1 x2) (sQ rows lm u z r T) := by
  unfold lX1_hasGoodInputs_2 at h
  unfold rlX1_hasGoodInputs_2
  refine zl_sim (I := fun y y' => ∃ (S : zS) (Sr : zS) (x0 : Nat) (x1 : Int32) (x2 : Int32), y = (S, x0, x1, x2) ∧ y' = (Sr, x0, x1, x2) ∧ zR rows lm u z S Sr ∧ zn rows x0) (Q := fun y' => (sQ rows lm u z r T)) ?_ N _ _ ⟨S, Sr, x0, x1, x2, rfl, rfl, hR, nx0⟩ h
  rintro K K' hK y y' ⟨S, Sr, x0, x1, x2, rfl, rfl, hR, nx0⟩ h
  exact sX1_hasGoodInputs_2 (fun S Sr x0 x1 x2 hR nx0 h => hK _ _ ⟨S, Sr, x0, x1, x2, rfl, rfl, hR, nx0⟩ h) hR nx0 h
set_option maxRecDepth 100000 in
set_option maxHeartbeats 4000000 in
theorem sX1_hasGoodInputs_0 {N : Nat} {z : Nat} {r : Int32} {T : zS}  {S : zS} {Sr : zS} {x0 : Nat} {x1 : Int32} (hR : zR rows lm u z S Sr) (nx0 : zn rows x0) (h : fX1_hasGoodInputs_0 N S x0 x1 = some (r, T)) : zw (rX1_hasGoodInputs_0 N Sr x0 x1) (sQ rows lm u z r T) := by
  unfold fX1_hasGoodInputs_0 at h
  unfold rX1_hasGoodInputs_0
  exact tX1_hasGoodInputs_2  hR nx0 h
theorem sX1_hasGoodInputs {N : Nat} {z : Nat} {r : Int32} {T : zS} {S : zS} {Sr : zS} {x0 : Nat} {x1 : Int32} (hR : zR rows lm u z S Sr) (nx0 : zn rows x0) (h : fX1_hasGoodInputs N S x0 x1 = some (r, T)) : zw (rX1_hasGoodInputs N Sr x0 x1) (sQ rows lm u z r T) := sX1_hasGoodInputs_0 hR nx0 h
set_option maxRecDepth 100000 in
set_option maxHeartbeats 4000000 in
theorem sX1_inputRow_37 {N : Nat} {z : Nat} {r : Nat} {T : zS}  {S : zS} {Sr : zS} {y0 : Nat} (hR : zR rows lm u z S Sr) (ny0 : zn rows y0) (h : fX1_inputRow_37 N S y0 = some (r, T)) : zw (rX1_inputRow_37 N Sr y0) (sA rows lm u z r T) := by
  unfold fX1_inputRow_37 at h
  unfold rX1_inputRow_37
  cases h
  exact zw.s ⟨rfl, ny0, hR⟩
set_option maxRecDepth 100000 in
set_option maxHeartbeats 4000000 in
theorem sX1_inputRow_0 {N : Nat} {z : Nat} {r : Nat} {T : zS}  {S : zS} {Sr : zS} {x0 : Nat} {x1 : Int32} {x2 : Int32} (hR : zR rows lm u z S Sr) (nx0 : zn rows x0) (h : fX1_inputRow_0 N S x0 x1 x2 = some (r, T)) : zw (rX1_inputRow_0 N Sr x0 x1 x2) (sA rows lm u z r T) := by
  unfold fX1_inputRow_0 at h
  unfold rX1_inputRow_0
  obtain ⟨v1, ev1, h⟩ := zb_some h
  have nv1 := hR.gn (by decide) ev1
  refine zw.e (hR.gr (by decide) ev1) ?_
  obtain ⟨u2, eu2, h⟩ := zb_some h
  refine zw.e (hR.rc eu2) ?_
  obtain ⟨v4, S3, eS3, h⟩ := zb2_some h
  refine sc2 (sX4_input hR nv1 eS3) (fun S3r hR => ?_)
  by_cases c : (100 : Int32) ≤ v4
  · have h := (if_pos c).symm.trans h
    refine zw.t c ?_
    obtain ⟨v5, ev5, h⟩ := zb_some h
    have nv5 := hR.gn (by decide) ev5
    refine zw.e (hR.gr (by decide) ev5) ?_
    obtain ⟨v6, ev6, h⟩ := zb_some h
    have nv6 := hR.an (by decide) ev6
    refine zw.e (hR.al (by decide) ev6) ?_
    exact sX1_inputRow_37  hR nv6 h
  · have h := (if_neg c).symm.trans h
    refine zw.f c ?_
    obtain ⟨v7, ev7, h⟩ := zb_some h
    have nv7 := hR.gn (by decide) ev7
    refine zw.e (hR.gr (by decide) ev7) ?_
    obtain ⟨v8, ev8, h⟩ := zb_some h
    have nv8 := hR.gn (by decide) ev8
    refine zw.e (hR.gr (by decide) ev8) ?_
    obtain ⟨v9, ev9, h⟩ := zb_some h
    have nv9 := hR.an (by decide) ev9
    refine zw.e (hR.al (by decide) ev9) ?_
    exact sX1_inputRow_37  hR nv9 h
theorem sX1_inputRow {N : Nat} {z : Nat} {r : Nat} {T : zS} {S : zS} {Sr : zS} {x0 : Nat} {x1 : Int32} {x2 : Int32} (hR : zR rows lm u z S Sr) (nx0 : zn rows x0) (h : fX1_inputRow N S x0 x1 x2 = some (r, T)) : zw (rX1_inputRow N Sr x0 x1 x2) (sA rows lm u z r T) := sX1_inputRow_0 hR nx0 h
set_option maxRecDepth 100000 in
set_option maxHeartbeats 4000000 in
theorem sX1_join_40 {N : Nat} {r : Int32} {T : zS} {Kv14 : zS × Nat × Int32 × Nat × Int32 × Int32 × Int32 → Option (Int32 × zS)} {K14 : zS × Nat × Nat × Int32 × Nat × Int32 × Int32 × Int32 → Option (Int32 × zS × Nat)} (hK14 : ∀ (S : zS) (Sr : zS) (z : Nat) (x0 : Nat) (x1 : Int32) (x2 : Nat) (x3 : Int32) (x4 : Int32) (x5 : Int32), zR rows lm u z S Sr → zn rows x0 → zn rows x2 → Kv14 (S, x0, x1, x2, x3, x4, x5) = some (r, T) → zw (K14 (Sr, z, x0, x1, x2, x3, x4, x5)) (tQ rows lm u z r T)) {S : zS} {Sr : zS} {z : Nat} {x0 : Nat} {x1 : Int32} {x2 : Nat} {x3 : Int32} {x4 : Int32} {x5 : Int32} {y0 : Nat} {y1 : Nat} {y2 : Int32} {y3 : Int32} (hR : zR rows lm u z S Sr) (nx0 : zn rows x0) (nx2 : zn rows x2) (ny0 : zn rows y0) (ny1 : zn rows y1) (h : fX1_join_40 N Kv14 S x0 x1 x2 x3 x4 x5 y0 y1 y2 y3 = some (r, T)) : zw (rX1_join_40 N K14 Sr z x0 x1 x2 x3 x4 x5 y0 y1 y2 y3) (tQ rows lm u z r T) := by
  unfold fX1_join_40 at h
  unfold rX1_join_40
  refine zgeI_w (Nat.le_refl _) ?_
  obtain ⟨u1, eu1, h⟩ := zb_some h
  refine zw.e (hR.rc eu1) ?_
  obtain ⟨v3, S2, eS2, h⟩ := zb2_some h
  refine scA (sX1_inputRow hR ny1 eS2) (fun S2r nv3 hR => ?_)
  obtain ⟨u4, eu4, h⟩ := zb_some h
  refine zw.e (hR.rc eu4) ?_
  obtain ⟨v7, S5, eS5, h⟩ := zb2_some h
  refine sc3 (sX5_append hR ny0 nv3 eS5) (fun S5r z6 hmz6 hR => ?_)
  refine zgeI_w hmz6 ?_
  by_cases c : v7 = (0 : Int32)
  · have h := (if_pos c).symm.trans h
    refine zw.t c ?_
    cases h
    exact zw.s ⟨rfl, Nat.le_refl _, hR⟩
  · have h := (if_neg c).symm.trans h
    refine zw.f c ?_
    exact hK14 _ _ _ _ _ _ _ _ _ hR nx0 nx2 h
set_option maxRecDepth 100000 in
set_option maxHeartbeats 4000000 in
theorem sX1_join_14 {N : Nat} {r : Int32} {T : zS} {Kv14 : zS × Nat × Int32 × Nat × Int32 × Int32 × Int32 → Option (Int32 × zS)} {K14 : zS × Nat × Nat × Int32 × Nat × Int32 × Int32 × Int32 → Option (Int32 × zS × Nat)} (hK14 : ∀ (S : zS) (Sr : zS) (z : Nat) (x0 : Nat) (x1 : Int32) (x2 : Nat) (x3 : Int32) (x4 : Int32) (x5 : Int32), zR rows lm u z S Sr → zn rows x0 → zn rows x2 → Kv14 (S, x0, x1, x2, x3, x4, x5) = some (r, T) → zw (K14 (Sr, z, x0, x1, x2, x3, x4, x5)) (tQ rows lm u z r T)) {S : zS} {Sr : zS} {z : Nat} {x0 : Nat} {x1 : Int32} {x2 : Nat} {x3 : Int32} {x4 : Int32} {x5 : Int32} (hR : zR rows lm u z S Sr) (nx0 : zn rows x0) (nx2 : zn rows x2) (h : fX1_join_14 N Kv14 S x0 x1 x2 x3 x4 x5 = some (r, T)) : zw (rX1_join_14 N K14 Sr z x0 x1 x2 x3 x4 x5) (tQ rows lm u z r T) := by
  unfold fX1_join_14 at h
  unfold rX1_join_14
  refine zgeI_w (Nat.le_refl _) ?_
  by_cases c : x4 ≤ x5
  · have h := (if_pos c).symm.trans h
    refine zw.t c ?_
    cases h
    exact zw.s ⟨rfl, Nat.le_refl _, hR⟩
  · have h := (if_neg c).symm.trans h
    refine zw.f c ?_
    by_cases c : x3 = (0 : Int32)
    · have h := (if_pos c).symm.trans h
      refine zw.t c ?_
      exact sX1_join_40 hK14  hR nx0 nx2 nx2 nx0 h
    · have h := (if_neg c).symm.trans h
      refine zw.f c ?_
      exact sX1_join_40 hK14  hR nx0 nx2 nx2 nx0 h
set_option maxRecDepth 100000 in
set_option maxHeartbeats 4000000 in
theorem tX1_join_14 {N : Nat} {r : Int32} {T : zS}  {S : zS} {Sr : zS} {z : Nat} {x0 : Nat} {x1 : Int32} {x2 : Nat} {x3 : Int32} {x4 : Int32} {x5 : Int32} (hR : zR rows lm u z S Sr) (nx0 : zn rows x0) (nx2 : zn rows x2) (h : lX1_join_14 N S x0 x1 x2 x3 x4 x5 = some (r, T)) : zw (rlX1_join_14 N Sr z x0 x1 x2 x3 x4 x5) (tQ rows lm u z r T) := by
  unfold lX1_join_14 at h
  unfold rlX1_join_14
  refine zl_sim (I := fun y y' => ∃ (S : zS) (Sr : zS) (z : Nat) (x0 : Nat) (x1 : Int32) (x2 : Nat) (x3 : Int32) (x4 : Int32) (x5 : Int32), y = (S, x0, x1, x2, x3, x4, x5) ∧ y' = (Sr, z, x0, x1, x2, x3, x4, x5) ∧ zR rows lm u z S Sr ∧ zn rows x0 ∧ zn rows x2) (Q := fun y' => (tQ rows lm u y'.2.1 r T)) ?_ N _ _ ⟨S, Sr, z, x0, x1, x2, x3, x4, x5, rfl, rfl, hR, nx0, nx2⟩ h
  rintro K K' hK y y' ⟨S, Sr, z, x0, x1, x2, x3, x4, x5, rfl, rfl, hR, nx0, nx2⟩ h
  exact sX1_join_14 (fun S Sr z x0 x1 x2 x3 x4 x5 hR nx0 nx2 h => hK _ _ ⟨S, Sr, z, x0, x1, x2, x3, x4, x5, rfl, rfl, hR, nx0, nx2⟩ h) hR nx0 nx2 h
set_option maxRecDepth 100000 in
set_option maxHeartbeats 4000000 in
theorem sX1_join_0 {N : Nat} {r : Int32} {T : zS}  {S : zS} {Sr : zS} {z : Nat} {x0 : Nat} {x1 : Int32} {x2 : Nat} {x3 : Int32} (hR : zR rows lm u z S Sr) (nx0 : zn rows x0) (nx2 : zn rows x2) (h : fX1_join_0 N S x0 x1 x2 x3 = some (r, T)) : zw (rX1_join_0 N Sr z x0 x1 x2 x3) (tQ rows lm u z r T) := by
  unfold fX1_join_0 at h
  unfold rX1_join_0
  refine zgeI_w (Nat.le_refl _) ?_
  obtain ⟨v8, ev8, h⟩ := zb_some h
  have nv8 := hR.gn (by decide) ev8
  refine zw.e (hR.gr (by decide) ev8) ?_
  obtain ⟨v9, ev9, h⟩ := zb_some h
  have nv9 := hR.gn (by decide) ev9
  refine zw.e (hR.gr (by decide) ev9) ?_
  obtain ⟨v10, ev10, h⟩ := zb_some h
  refine zw.e (hR.il nv9 ev10) ?_
  exact tX1_join_14  hR nx0 nx2 h
theorem sX1_join {N : Nat} {r : Int32} {T : zS} {S : zS} {Sr : zS} {z : Nat} {x0 : Nat} {x1 : Int32} {x2 : Nat} {x3 : Int32} (hR : zR rows lm u z S Sr) (nx0 : zn rows x0) (nx2 : zn rows x2) (h : fX1_join N S x0 x1 x2 x3 = some (r, T)) : zw (rX1_join N Sr z x0 x1 x2 x3) (tQ rows lm u z r T) := sX1_join_0 hR nx0 nx2 h
set_option maxRecDepth 100000 in
set_option maxHeartbeats 4000000 in
theorem sX1_mask_2 {N : Nat} {z : Nat} {T : zS} {Kv2 : zS × Nat × Int32 × Int32 → Option (zS)} {K2 : zS × Nat × Int32 × Int32 → Option (zS)} (hK2 : ∀ (S : zS) (Sr : zS) (x0 : Nat) (x1 : Int32) (x2 : Int32), zR rows lm u z S Sr → zn rows x0 → Kv2 (S, x0, x1, x2) = some T → zw (K2 (Sr, x0, x1, x2)) (sV rows lm u z T)) {S : zS} {Sr : zS} {x0 : Nat} {x1 : Int32} {x2 : Int32} (hR : zR rows lm u z S Sr) (nx0 : zn rows x0) (h : fX1_mask_2 N Kv2 S x0 x1 x2 = some T) : zw (rX1_mask_2 N K2 Sr x0 x1 x2) (sV rows lm u z T) := by
  unfold fX1_mask_2 at h
  unfold rX1_mask_2
  obtain ⟨v1, ev1, h⟩ := zb_some h
  refine zw.e (hR.gz ev1) ?_
  by_cases c : v1 ≤ x2
  · have h := (if_pos c).symm.trans h
    refine zw.t c ?_
    cases h
    exact zw.s hR
  · have h := (if_neg c).symm.trans h
    refine zw.f c ?_
    obtain ⟨v2, ev2, h⟩ := zb_some h
    obtain ⟨bv2, qv2, pv2⟩ := hR.gb ev2
    refine zw.e qv2 ?_
    obtain ⟨v3, ev3, h⟩ := zb_some h
    refine zw.e (hR.ib pv2 ev3) ?_
    obtain ⟨S4, eS4, h⟩ := zb_some h
    obtain ⟨S4r, qS4, hR⟩ := hR.ibs pv2 eS4
    refine zw.e qS4 ?_
    exact hK2 _ _ _ _ _ hR nx0 h
set_option maxRecDepth 100000 in
set_option maxHeartbeats 4000000 in
theorem tX1_mask_2 {N : Nat} {z : Nat} {T : zS}  {S : zS} {Sr : zS} {x0 : Nat} {x1 : Int32} {x2 : Int32} (hR : zR rows lm u z S Sr) (nx0 : zn rows x0) (h : lX1_mask_2 N S x0 x1 x2 = some T) : zw (rlX1_mask_2 N Sr x0 x1 x2) (sV rows lm u z T) := by
  unfold lX1_mask_2 at h
  unfold rlX1_mask_2
  refine zl_sim (I := fun y y' => ∃ (S : zS) (Sr : zS) (x0 : Nat) (x1 : Int32) (x2 : Int32), y = (S, x0, x1, x2) ∧ y' = (Sr, x0, x1, x2) ∧ zR rows lm u z S Sr ∧ zn rows x0) (Q := fun y' => (sV rows lm u z T)) ?_ N _ _ ⟨S, Sr, x0, x1, x2, rfl, rfl, hR, nx0⟩ h
  rintro K K' hK y y' ⟨S, Sr, x0, x1, x2, rfl, rfl, hR, nx0⟩ h
  exact sX1_mask_2 (fun S Sr x0 x1 x2 hR nx0 h => hK _ _ ⟨S, Sr, x0, x1, x2, rfl, rfl, hR, nx0⟩ h) hR nx0 h
set_option maxRecDepth 100000 in
set_option maxHeartbeats 4000000 in
theorem sX1_mask_0 {N : Nat} {z : Nat} {T : zS}  {S : zS} {Sr : zS} {x0 : Nat} {x1 : Int32} (hR : zR rows lm u z S Sr) (nx0 : zn rows x0) (h : fX1_mask_0 N S x0 x1 = some T) : zw (rX1_mask_0 N Sr x0 x1) (sV rows lm u z T) := by
  unfold fX1_mask_0 at h
  unfold rX1_mask_0
  exact tX1_mask_2  hR nx0 h
theorem sX1_mask {N : Nat} {z : Nat} {T : zS} {S : zS} {Sr : zS} {x0 : Nat} {x1 : Int32} (hR : zR rows lm u z S Sr) (nx0 : zn rows x0) (h : fX1_mask N S x0 x1 = some T) : zw (rX1_mask N Sr x0 x1) (sV rows lm u z T) := sX1_mask_0 hR nx0 h
set_option maxRecDepth 100000 in
set_option maxHeartbeats 4000000 in
theorem sX1_sign_39 {N : Nat} {T : zS} {Kv39 : zS × Nat × Int32 × Int32 → Option (zS)} {K39 : zS × Nat × Nat × Int32 × Int32 → Option (zS × Nat)} (hK39 : ∀ (S : zS) (Sr : zS) (z : Nat) (x0 : Nat) (x1 : Int32) (x2 : Int32), zR rows lm u z S Sr → zn rows x0 → Kv39 (S, x0, x1, x2) = some T → zw (K39 (Sr, z, x0, x1, x2)) (tV rows lm u z T)) {S : zS} {Sr : zS} {z : Nat} {x0 : Nat} {x1 : Int32} {x2 : Int32} (hR : zR rows lm u z S Sr) (nx0 : zn rows x0) (h : fX1_sign_39 N Kv39 S x0 x1 x2 = some T) : zw (rX1_sign_39 N K39 Sr z x0 x1 x2) (tV rows lm u z T) := by
  unfold fX1_sign_39 at h
  unfold rX1_sign_39
  refine zgeV_w (Nat.le_refl _) ?_
  by_cases c : x2 < (0 : Int32)
  · have h := (if_pos c).symm.trans h
    refine zw.t c ?_
    cases h
    exact zw.s ⟨Nat.le_refl _, hR⟩
  · have h := (if_neg c).symm.trans h
    refine zw.f c ?_
    obtain ⟨u1, eu1, h⟩ := zb_some h
    refine zw.e (hR.rc eu1) ?_
    obtain ⟨v4, S2, eS2, h⟩ := zb2_some h
    refine sc3 (sX5_put hR nx0 eS2) (fun S2r z3 hmz3 hR => ?_)
    refine zgeV_w hmz3 ?_
    exact hK39 _ _ _ _ _ _ hR nx0 h
set_option maxRecDepth 100000 in
set_option maxHeartbeats 4000000 in
theorem tX1_sign_39 {N : Nat} {T : zS}  {S : zS} {Sr : zS} {z : Nat} {x0 : Nat} {x1 : Int32} {x2 : Int32} (hR : zR rows lm u z S Sr) (nx0 : zn rows x0) (h : lX1_sign_39 N S x0 x1 x2 = some T) : zw (rlX1_sign_39 N Sr z x0 x1 x2) (tV rows lm u z T) := by
  unfold lX1_sign_39 at h
  unfold rlX1_sign_39
  refine zl_sim (I := fun y y' => ∃ (S : zS) (Sr : zS) (z : Nat) (x0 : Nat) (x1 : Int32) (x2 : Int32), y = (S, x0, x1, x2) ∧ y' = (Sr, z, x0, x1, x2) ∧ zR rows lm u z S Sr ∧ zn rows x0) (Q := fun y' => (tV rows lm u y'.2.1 T)) ?_ N _ _ ⟨S, Sr, z, x0, x1, x2, rfl, rfl, hR, nx0⟩ h
  rintro K K' hK y y' ⟨S, Sr, z, x0, x1, x2, rfl, rfl, hR, nx0⟩ h
  exact sX1_sign_39 (fun S Sr z x0 x1 x2 hR nx0 h => hK _ _ ⟨S, Sr, z, x0, x1, x2, rfl, rfl, hR, nx0⟩ h) hR nx0 h
set_option maxRecDepth 100000 in
set_option maxHeartbeats 4000000 in
theorem sX1_sign_5 {N : Nat} {T : zS} {Kv5 : zS × Nat × Int32 × Int32 → Option (zS)} {K5 : zS × Nat × Nat × Int32 × Int32 → Option (zS × Nat)} (hK5 : ∀ (S : zS) (Sr : zS) (z : Nat) (x0 : Nat) (x1 : Int32) (x2 : Int32), zR rows lm u z S Sr → zn rows x0 → Kv5 (S, x0, x1, x2) = some T → zw (K5 (Sr, z, x0, x1, x2)) (tV rows lm u z T)) {S : zS} {Sr : zS} {z : Nat} {x0 : Nat} {x1 : Int32} {x2 : Int32} (hR : zR rows lm u z S Sr) (nx0 : zn rows x0) (h : fX1_sign_5 N Kv5 S x0 x1 x2 = some T) : zw (rX1_sign_5 N K5 Sr z x0 x1 x2) (tV rows lm u z T) := by
  unfold fX1_sign_5 at h
  unfold rX1_sign_5
  refine zgeV_w (Nat.le_refl _) ?_
  obtain ⟨v5, ev5, h⟩ := zb_some h
  refine zw.e (hR.gz ev5) ?_
  by_cases c : v5 ≤ x2
  · have h := (if_pos c).symm.trans h
    refine zw.t c ?_
    obtain ⟨S6, eS6, h⟩ := zb_some h
    obtain ⟨S6r, qS6, hR⟩ := hR.pz eS6
    refine zw.e qS6 ?_
    exact tX1_sign_39  hR nx0 h
  · have h := (if_neg c).symm.trans h
    refine zw.f c ?_
    obtain ⟨v7, ev7, h⟩ := zb_some h
    obtain ⟨bv7, qv7, pv7⟩ := hR.gb ev7
    refine zw.e qv7 ?_
    obtain ⟨v8, ev8, h⟩ := zb_some h
    refine zw.e (hR.ib pv7 ev8) ?_
    exact hK5 _ _ _ _ _ _ hR nx0 h
set_option maxRecDepth 100000 in
set_option maxHeartbeats 4000000 in
theorem tX1_sign_5 {N : Nat} {T : zS}  {S : zS} {Sr : zS} {z : Nat} {x0 : Nat} {x1 : Int32} {x2 : Int32} (hR : zR rows lm u z S Sr) (nx0 : zn rows x0) (h : lX1_sign_5 N S x0 x1 x2 = some T) : zw (rlX1_sign_5 N Sr z x0 x1 x2) (tV rows lm u z T) := by
  unfold lX1_sign_5 at h
  unfold rlX1_sign_5
  refine zl_sim (I := fun y y' => ∃ (S : zS) (Sr : zS) (z : Nat) (x0 : Nat) (x1 : Int32) (x2 : Int32), y = (S, x0, x1, x2) ∧ y' = (Sr, z, x0, x1, x2) ∧ zR rows lm u z S Sr ∧ zn rows x0) (Q := fun y' => (tV rows lm u y'.2.1 T)) ?_ N _ _ ⟨S, Sr, z, x0, x1, x2, rfl, rfl, hR, nx0⟩ h
  rintro K K' hK y y' ⟨S, Sr, z, x0, x1, x2, rfl, rfl, hR, nx0⟩ h
  exact sX1_sign_5 (fun S Sr z x0 x1 x2 hR nx0 h => hK _ _ ⟨S, Sr, z, x0, x1, x2, rfl, rfl, hR, nx0⟩ h) hR nx0 h
set_option maxRecDepth 100000 in
set_option maxHeartbeats 4000000 in
theorem sX1_sign_0 {N : Nat} {T : zS}  {S : zS} {Sr : zS} {z : Nat} {x0 : Nat} (hR : zR rows lm u z S Sr) (nx0 : zn rows x0) (h : fX1_sign_0 N S x0 = some T) : zw (rX1_sign_0 N Sr z x0) (tV rows lm u z T) := by
  unfold fX1_sign_0 at h
  unfold rX1_sign_0
  refine zgeV_w (Nat.le_refl _) ?_
  exact tX1_sign_5  hR nx0 h
theorem sX1_sign {N : Nat} {T : zS} {S : zS} {Sr : zS} {z : Nat} {x0 : Nat} (hR : zR rows lm u z S Sr) (nx0 : zn rows x0) (h : fX1_sign N S x0 = some T) : zw (rX1_sign N Sr z x0) (tV rows lm u z T) := sX1_sign_0 hR nx0 h
set_option maxRecDepth 100000 in
set_option maxHeartbeats 4000000 in
theorem sJ7_fill_53178_5 {N : Nat} {z : Nat} {T : zS} {Kv5 : zS × Nat × Int32 × Int32 × Int32 → Option (zS)} {K5 : zS × Nat × Int32 × Int32 × Int32 → Option (zS)} (hK5 : ∀ (S : zS) (Sr : zS) (x0 : Nat) (x1 : Int32) (x2 : Int32) (x3 : Int32), zR rows lm u z S Sr → zn rows x0 → Kv5 (S, x0, x1, x2, x3) = some T → zw (K5 (Sr, x0, x1, x2, x3)) (sV rows lm u z T)) {S : zS} {Sr : zS} {x0 : Nat} {x1 : Int32} {x2 : Int32} {x3 : Int32} (hR : zR rows lm u z S Sr) (nx0 : zn rows x0) (h : fJ7_fill_53178_5 N Kv5 S x0 x1 x2 x3 = some T) : zw (fJ7_fill_53178_5 N K5 Sr x0 x1 x2 x3) (sV rows lm u z T) := by
  unfold fJ7_fill_53178_5 at h
  unfold fJ7_fill_53178_5
  by_cases c : x3 ≤ x2
  · have h := (if_pos c).symm.trans h
    refine zw.t c ?_
    cases h
    exact zw.s hR
  · have h := (if_neg c).symm.trans h
    refine zw.f c ?_
    obtain ⟨S1, eS1, h⟩ := zb_some h
    obtain ⟨S1r, qS1, hR⟩ := hR.is nx0 eS1
    refine zw.e qS1 ?_
    exact hK5 _ _ _ _ _ _ hR nx0 h
set_option maxRecDepth 100000 in
set_option maxHeartbeats 4000000 in
theorem tJ7_fill_53178_5 {N : Nat} {z : Nat} {T : zS}  {S : zS} {Sr : zS} {x0 : Nat} {x1 : Int32} {x2 : Int32} {x3 : Int32} (hR : zR rows lm u z S Sr) (nx0 : zn rows x0) (h : lJ7_fill_53178_5 N S x0 x1 x2 x3 = some T) : zw (lJ7_fill_53178_5 N Sr x0 x1 x2 x3) (sV rows lm u z T) := by
  unfold lJ7_fill_53178_5 at h
  unfold lJ7_fill_53178_5
  refine zl_sim (I := fun y y' => ∃ (S : zS) (Sr : zS) (x0 : Nat) (x1 : Int32) (x2 : Int32) (x3 : Int32), y = (S, x0, x1, x2, x3) ∧ y' = (Sr, x0, x1, x2, x3) ∧ zR rows lm u z S Sr ∧ zn rows x0) (Q := fun y' => (sV rows lm u z T)) ?_ N _ _ ⟨S, Sr, x0, x1, x2, x3, rfl, rfl, hR, nx0⟩ h
  rintro K K' hK y y' ⟨S, Sr, x0, x1, x2, x3, rfl, rfl, hR, nx0⟩ h
  exact sJ7_fill_53178_5 (fun S Sr x0 x1 x2 x3 hR nx0 h => hK _ _ ⟨S, Sr, x0, x1, x2, x3, rfl, rfl, hR, nx0⟩ h) hR nx0 h
set_option maxRecDepth 100000 in
set_option maxHeartbeats 4000000 in
theorem sJ7_fill_53178_0 {N : Nat} {z : Nat} {T : zS}  {S : zS} {Sr : zS} {x0 : Nat} {x1 : Int32} (hR : zR rows lm u z S Sr) (nx0 : zn rows x0) (h : fJ7_fill_53178_0 N S x0 x1 = some T) : zw (fJ7_fill_53178_0 N Sr x0 x1) (sV rows lm u z T) := by
  unfold fJ7_fill_53178_0 at h
  unfold fJ7_fill_53178_0
  obtain ⟨v2, ev2, h⟩ := zb_some h
  refine zw.e (hR.ln nx0 ev2) ?_
  exact tJ7_fill_53178_5  hR nx0 h
theorem sJ7_fill_53178 {N : Nat} {z : Nat} {T : zS} {S : zS} {Sr : zS} {x0 : Nat} {x1 : Int32} (hR : zR rows lm u z S Sr) (nx0 : zn rows x0) (h : fJ7_fill_53178 N S x0 x1 = some T) : zw (fJ7_fill_53178 N Sr x0 x1) (sV rows lm u z T) := sJ7_fill_53178_0 hR nx0 h
set_option maxRecDepth 100000 in
set_option maxHeartbeats 4000000 in
theorem sX1_sort_59 {N : Nat} {T : zS} {Kv50 : zS × Nat × Nat × Int32 → Option (zS)} {K50 : zS × Nat × Nat × Nat × Int32 → Option (zS × Nat)} (hK50 : ∀ (S : zS) (Sr : zS) (z : Nat) (x0 : Nat) (x1 : Nat) (x2 : Int32), zR rows lm u z S Sr → zn rows x0 → zn rows x1 → Kv50 (S, x0, x1, x2) = some T → zw (K50 (Sr, z, x0, x1, x2)) (tV rows lm u z T)) {Kv59 : zS × Nat × Nat × Int32 × Int32 → Option (zS)} {K59 : zS × Nat × Nat × Nat × Int32 × Int32 → Option (zS × Nat)} (hK59 : ∀ (S : zS) (Sr : zS) (z : Nat) (x0 : Nat) (x1 : Nat) (x2 : Int32) (x3 : Int32), zR rows lm u z S Sr → zn rows x0 → zn rows x1 → Kv59 (S, x0, x1, x2, x3) = some T → zw (K59 (Sr, z, x0, x1, x2, x3)) (tV rows lm u z T)) {S : zS} {Sr : zS} {z : Nat} {x0 : Nat} {x1 : Nat} {x2 : Int32} {x3 : Int32} (hR : zR rows lm u z S Sr) (nx0 : zn rows x0) (nx1 : zn rows x1) (h : fX1_sort_59 N Kv50 Kv59 S x0 x1 x2 x3 = some T) : zw (rX1_sort_59 N K50 K59 Sr z x0 x1 x2 x3) (tV rows lm u z T) := by
  unfold fX1_sort_59 at h
  unfold rX1_sort_59
  refine zgeV_w (Nat.le_refl _) ?_
  obtain ⟨v1, ev1, h⟩ := zb_some h
  have nv1 := hR.gn (by decide) ev1
  refine zw.e (hR.gr (by decide) ev1) ?_
  obtain ⟨v2, ev2, h⟩ := zb_some h
  refine zw.e (hR.il nv1 ev2) ?_
  by_cases c : v2 ≤ x3
  · have h := (if_pos c).symm.trans h
    refine zw.t c ?_
    exact hK50 _ _ _ _ _ _ hR nx0 nx1 h
  · have h := (if_neg c).symm.trans h
    refine zw.f c ?_
    obtain ⟨u3, eu3, h⟩ := zb_some h
    refine zw.e (hR.rc eu3) ?_
    obtain ⟨v6, S4, eS4, h⟩ := zb2_some h
    refine sc3 (sX5_put hR nx1 eS4) (fun S4r z5 hmz5 hR => ?_)
    refine zgeV_w hmz5 ?_
    exact hK59 _ _ _ _ _ _ _ hR nx0 nx1 h
set_option maxRecDepth 100000 in
set_option maxHeartbeats 4000000 in
theorem tX1_sort_59 {N : Nat} {T : zS} {Kv50 : zS × Nat × Nat × Int32 → Option (zS)} {K50 : zS × Nat × Nat × Nat × Int32 → Option (zS × Nat)} (hK50 : ∀ (S : zS) (Sr : zS) (z : Nat) (x0 : Nat) (x1 : Nat) (x2 : Int32), zR rows lm u z S Sr → zn rows x0 → zn rows x1 → Kv50 (S, x0, x1, x2) = some T → zw (K50 (Sr, z, x0, x1, x2)) (tV rows lm u z T)) {S : zS} {Sr : zS} {z : Nat} {x0 : Nat} {x1 : Nat} {x2 : Int32} {x3 : Int32} (hR : zR rows lm u z S Sr) (nx0 : zn rows x0) (nx1 : zn rows x1) (h : lX1_sort_59 N Kv50 S x0 x1 x2 x3 = some T) : zw (rlX1_sort_59 N K50 Sr z x0 x1 x2 x3) (tV rows lm u z T) := by
  unfold lX1_sort_59 at h
  unfold rlX1_sort_59
  refine zl_sim (I := fun y y' => ∃ (S : zS) (Sr : zS) (z : Nat) (x0 : Nat) (x1 : Nat) (x2 : Int32) (x3 : Int32), y = (S, x0, x1, x2, x3) ∧ y' = (Sr, z, x0, x1, x2, x3) ∧ zR rows lm u z S Sr ∧ zn rows x0 ∧ zn rows x1) (Q := fun y' => (tV rows lm u y'.2.1 T)) ?_ N _ _ ⟨S, Sr, z, x0, x1, x2, x3, rfl, rfl, hR, nx0, nx1⟩ h
  rintro K K' hK y y' ⟨S, Sr, z, x0, x1, x2, x3, rfl, rfl, hR, nx0, nx1⟩ h
  exact sX1_sort_59 hK50 (fun S Sr z x0 x1 x2 x3 hR nx0 nx1 h => hK _ _ ⟨S, Sr, z, x0, x1, x2, x3, rfl, rfl, hR, nx0, nx1⟩ h) hR nx0 nx1 h
set_option maxRecDepth 100000 in
set_option maxHeartbeats 4000000 in
theorem sX1_sort_50 {N : Nat} {T : zS} {Kv50 : zS × Nat × Nat × Int32 → Option (zS)} {K50 : zS × Nat × Nat × Nat × Int32 → Option (zS × Nat)} (hK50 : ∀ (S : zS) (Sr : zS) (z : Nat) (x0 : Nat) (x1 : Nat) (x2 : Int32), zR rows lm u z S Sr → zn rows x0 → zn rows x1 → Kv50 (S, x0, x1, x2) = some T → zw (K50 (Sr, z, x0, x1, x2)) (tV rows lm u z T)) {S : zS} {Sr : zS} {z : Nat} {x0 : Nat} {x1 : Nat} {x2 : Int32} (hR : zR rows lm u z S Sr) (nx0 : zn rows x0) (nx1 : zn rows x1) (h : fX1_sort_50 N Kv50 S x0 x1 x2 = some T) : zw (rX1_sort_50 N K50 Sr z x0 x1 x2) (tV rows lm u z T) := by
  unfold fX1_sort_50 at h
  unfold rX1_sort_50
  refine zgeV_w (Nat.le_refl _) ?_
  by_cases c : (255 : Int32) < x2
  · have h := (if_pos c).symm.trans h
    refine zw.t c ?_
    cases h
    exact zw.s ⟨Nat.le_refl _, hR⟩
  · have h := (if_neg c).symm.trans h
    refine zw.f c ?_
    exact tX1_sort_59 hK50  hR nx0 nx1 h
set_option maxRecDepth 100000 in
set_option maxHeartbeats 4000000 in
theorem tX1_sort_50 {N : Nat} {T : zS}  {S : zS} {Sr : zS} {z : Nat} {x0 : Nat} {x1 : Nat} {x2 : Int32} (hR : zR rows lm u z S Sr) (nx0 : zn rows x0) (nx1 : zn rows x1) (h : lX1_sort_50 N S x0 x1 x2 = some T) : zw (rlX1_sort_50 N Sr z x0 x1 x2) (tV rows lm u z T) := by
  unfold lX1_sort_50 at h
  unfold rlX1_sort_50
  refine zl_sim (I := fun y y' => ∃ (S : zS) (Sr : zS) (z : Nat) (x0 : Nat) (x1 : Nat) (x2 : Int32), y = (S, x0, x1, x2) ∧ y' = (Sr, z, x0, x1, x2) ∧ zR rows lm u z S Sr ∧ zn rows x0 ∧ zn rows x1) (Q := fun y' => (tV rows lm u y'.2.1 T)) ?_ N _ _ ⟨S, Sr, z, x0, x1, x2, rfl, rfl, hR, nx0, nx1⟩ h
  rintro K K' hK y y' ⟨S, Sr, z, x0, x1, x2, rfl, rfl, hR, nx0, nx1⟩ h
  exact sX1_sort_50 (fun S Sr z x0 x1 x2 hR nx0 nx1 h => hK _ _ ⟨S, Sr, z, x0, x1, x2, rfl, rfl, hR, nx0, nx1⟩ h) hR nx0 nx1 h
set_option maxRecDepth 100000 in
set_option maxHeartbeats 4000000 in
theorem sX1_sort_10 {N : Nat} {T : zS} {Kv10 : zS × Nat × Nat × Int32 → Option (zS)} {K10 : zS × Nat × Nat × Nat × Int32 → Option (zS × Nat)} (hK10 : ∀ (S : zS) (Sr : zS) (z : Nat) (x0 : Nat) (x1 : Nat) (x2 : Int32), zR rows lm u z S Sr → zn rows x0 → zn rows x1 → Kv10 (S, x0, x1, x2) = some T → zw (K10 (Sr, z, x0, x1, x2)) (tV rows lm u z T)) {S : zS} {Sr : zS} {z : Nat} {x0 : Nat} {x1 : Nat} {x2 : Int32} (hR : zR rows lm u z S Sr) (nx0 : zn rows x0) (nx1 : zn rows x1) (h : fX1_sort_10 N Kv10 S x0 x1 x2 = some T) : zw (rX1_sort_10 N K10 Sr z x0 x1 x2) (tV rows lm u z T) := by
  unfold fX1_sort_10 at h
  unfold rX1_sort_10
  refine zgeV_w (Nat.le_refl _) ?_
  obtain ⟨v7, ev7, h⟩ := zb_some h
  refine zw.e (hR.gz ev7) ?_
  by_cases c : v7 ≤ x2
  · have h := (if_pos c).symm.trans h
    refine zw.t c ?_
    obtain ⟨S8, eS8, h⟩ := zb_some h
    obtain ⟨S8r, qS8, hR⟩ := hR.pz eS8
    refine zw.e qS8 ?_
    exact tX1_sort_50  hR nx0 nx1 h
  · have h := (if_neg c).symm.trans h
    refine zw.f c ?_
    obtain ⟨v9, ev9, h⟩ := zb_some h
    have nv9 := hR.gn (by decide) ev9
    refine zw.e (hR.gr (by decide) ev9) ?_
    obtain ⟨v10, ev10, h⟩ := zb_some h
    obtain ⟨bv10, qv10, pv10⟩ := hR.gb ev10
    refine zw.e qv10 ?_
    obtain ⟨v11, ev11, h⟩ := zb_some h
    refine zw.e (hR.ib pv10 ev11) ?_
    obtain ⟨v12, ev12, h⟩ := zb_some h
    refine zw.e (hR.il nv9 ev12) ?_
    obtain ⟨S13, eS13, h⟩ := zb_some h
    obtain ⟨S13r, qS13, hR⟩ := hR.is nv9 eS13
    refine zw.e qS13 ?_
    exact hK10 _ _ _ _ _ _ hR nx0 nx1 h
set_option maxRecDepth 100000 in
set_option maxHeartbeats 4000000 in
theorem tX1_sort_10 {N : Nat} {T : zS}  {S : zS} {Sr : zS} {z : Nat} {x0 : Nat} {x1 : Nat} {x2 : Int32} (hR : zR rows lm u z S Sr) (nx0 : zn rows x0) (nx1 : zn rows x1) (h : lX1_sort_10 N S x0 x1 x2 = some T) : zw (rlX1_sort_10 N Sr z x0 x1 x2) (tV rows lm u z T) := by
  unfold lX1_sort_10 at h
  unfold rlX1_sort_10
  refine zl_sim (I := fun y y' => ∃ (S : zS) (Sr : zS) (z : Nat) (x0 : Nat) (x1 : Nat) (x2 : Int32), y = (S, x0, x1, x2) ∧ y' = (Sr, z, x0, x1, x2) ∧ zR rows lm u z S Sr ∧ zn rows x0 ∧ zn rows x1) (Q := fun y' => (tV rows lm u y'.2.1 T)) ?_ N _ _ ⟨S, Sr, z, x0, x1, x2, rfl, rfl, hR, nx0, nx1⟩ h
  rintro K K' hK y y' ⟨S, Sr, z, x0, x1, x2, rfl, rfl, hR, nx0, nx1⟩ h
  exact sX1_sort_10 (fun S Sr z x0 x1 x2 hR nx0 nx1 h => hK _ _ ⟨S, Sr, z, x0, x1, x2, rfl, rfl, hR, nx0, nx1⟩ h) hR nx0 nx1 h
set_option maxRecDepth 100000 in
set_option maxHeartbeats 4000000 in
theorem sX1_sort_0 {N : Nat} {T : zS}  {S : zS} {Sr : zS} {z : Nat} {x0 : Nat} {x1 : Nat} (hR : zR rows lm u z S Sr) (nx0 : zn rows x0) (nx1 : zn rows x1) (h : fX1_sort_0 N S x0 x1 = some T) : zw (rX1_sort_0 N Sr z x0 x1) (tV rows lm u z T) := by
  unfold fX1_sort_0 at h
  unfold rX1_sort_0
  refine zgeV_w (Nat.le_refl _) ?_
  obtain ⟨v14, ev14, h⟩ := zb_some h
  have nv14 := hR.gn (by decide) ev14
  refine zw.e (hR.gr (by decide) ev14) ?_
  obtain ⟨S15, eS15, h⟩ := zb_some h
  refine zw.c (sJ7_fill_53178 hR nv14 eS15) (fun S15r hR => ?_)
  exact tX1_sort_10  hR nx0 nx1 h
theorem sX1_sort {N : Nat} {T : zS} {S : zS} {Sr : zS} {z : Nat} {x0 : Nat} {x1 : Nat} (hR : zR rows lm u z S Sr) (nx0 : zn rows x0) (nx1 : zn rows x1) (h : fX1_sort N S x0 x1 = some T) : zw (rX1_sort N Sr z x0 x1) (tV rows lm u z T) := sX1_sort_0 hR nx0 nx1 h
set_option maxRecDepth 100000 in
set_option maxHeartbeats 4000000 in
theorem sX1_strip_37 {N : Nat} {z : Nat} {T : zS} {Kv4 : zS × Nat × Int32 × Int32 × Int32 → Option (zS)} {K4 : zS × Nat × Int32 × Int32 × Int32 → Option (zS)} (hK4 : ∀ (S : zS) (Sr : zS) (x0 : Nat) (x1 : Int32) (x2 : Int32) (x3 : Int32), zR rows lm u z S Sr → zn rows x0 → Kv4 (S, x0, x1, x2, x3) = some T → zw (K4 (Sr, x0, x1, x2, x3)) (sV rows lm u z T)) {S : zS} {Sr : zS} {x0 : Nat} {x1 : Int32} {x2 : Int32} {x3 : Int32} (hR : zR rows lm u z S Sr) (nx0 : zn rows x0) (h : fX1_strip_37 N Kv4 S x0 x1 x2 x3 = some T) : zw (rX1_strip_37 N K4 Sr x0 x1 x2 x3) (sV rows lm u z T) := by
  unfold fX1_strip_37 at h
  unfold rX1_strip_37
  exact hK4 _ _ _ _ _ _ hR nx0 h
set_option maxRecDepth 100000 in
set_option maxHeartbeats 4000000 in
theorem sX1_strip_4 {N : Nat} {z : Nat} {T : zS} {Kv4 : zS × Nat × Int32 × Int32 × Int32 → Option (zS)} {K4 : zS × Nat × Int32 × Int32 × Int32 → Option (zS)} (hK4 : ∀ (S : zS) (Sr : zS) (x0 : Nat) (x1 : Int32) (x2 : Int32) (x3 : Int32), zR rows lm u z S Sr → zn rows x0 → Kv4 (S, x0, x1, x2, x3) = some T → zw (K4 (Sr, x0, x1, x2, x3)) (sV rows lm u z T)) {S : zS} {Sr : zS} {x0 : Nat} {x1 : Int32} {x2 : Int32} {x3 : Int32} (hR : zR rows lm u z S Sr) (nx0 : zn rows x0) (h : fX1_strip_4 N Kv4 S x0 x1 x2 x3 = some T) : zw (rX1_strip_4 N K4 Sr x0 x1 x2 x3) (sV rows lm u z T) := by
  unfold fX1_strip_4 at h
  unfold rX1_strip_4
  obtain ⟨v1, ev1, h⟩ := zb_some h
  refine zw.e (hR.gz ev1) ?_
  by_cases c : v1 ≤ x3
  · have h := (if_pos c).symm.trans h
    refine zw.t c ?_
    obtain ⟨S2, eS2, h⟩ := zb_some h
    obtain ⟨S2r, qS2, hR⟩ := hR.pz eS2
    refine zw.e qS2 ?_
    cases h
    exact zw.s hR
  · have h := (if_neg c).symm.trans h
    refine zw.f c ?_
    obtain ⟨v3, ev3, h⟩ := zb_some h
    obtain ⟨bv3, qv3, pv3⟩ := hR.gb ev3
    refine zw.e qv3 ?_
    obtain ⟨v4, ev4, h⟩ := zb_some h
    refine zw.e (hR.ib pv3 ev4) ?_
    by_cases c : v4 = x1
    · have h := (if_pos c).symm.trans h
      refine zw.t c ?_
      exact sX1_strip_37 hK4  hR nx0 h
    · have h := (if_neg c).symm.trans h
      refine zw.f c ?_
      obtain ⟨v5, ev5, h⟩ := zb_some h
      obtain ⟨bv5, qv5, pv5⟩ := hR.gb ev5
      refine zw.e qv5 ?_
      obtain ⟨v6, ev6, h⟩ := zb_some h
      obtain ⟨bv6, qv6, pv6⟩ := hR.gb ev6
      refine zw.e qv6 ?_
      obtain ⟨v7, ev7, h⟩ := zb_some h
      refine zw.e (hR.ib pv6 ev7) ?_
      obtain ⟨S8, eS8, h⟩ := zb_some h
      obtain ⟨S8r, qS8, hR⟩ := hR.ibs pv5 eS8
      refine zw.e qS8 ?_
      exact sX1_strip_37 hK4  hR nx0 h
set_option maxRecDepth 100000 in
set_option maxHeartbeats 4000000 in
theorem tX1_strip_4 {N : Nat} {z : Nat} {T : zS}  {S : zS} {Sr : zS} {x0 : Nat} {x1 : Int32} {x2 : Int32} {x3 : Int32} (hR : zR rows lm u z S Sr) (nx0 : zn rows x0) (h : lX1_strip_4 N S x0 x1 x2 x3 = some T) : zw (rlX1_strip_4 N Sr x0 x1 x2 x3) (sV rows lm u z T) := by
  unfold lX1_strip_4 at h
  unfold rlX1_strip_4
  refine zl_sim (I := fun y y' => ∃ (S : zS) (Sr : zS) (x0 : Nat) (x1 : Int32) (x2 : Int32) (x3 : Int32), y = (S, x0, x1, x2, x3) ∧ y' = (Sr, x0, x1, x2, x3) ∧ zR rows lm u z S Sr ∧ zn rows x0) (Q := fun y' => (sV rows lm u z T)) ?_ N _ _ ⟨S, Sr, x0, x1, x2, x3, rfl, rfl, hR, nx0⟩ h
  rintro K K' hK y y' ⟨S, Sr, x0, x1, x2, x3, rfl, rfl, hR, nx0⟩ h
  exact sX1_strip_4 (fun S Sr x0 x1 x2 x3 hR nx0 h => hK _ _ ⟨S, Sr, x0, x1, x2, x3, rfl, rfl, hR, nx0⟩ h) hR nx0 h
set_option maxRecDepth 100000 in
set_option maxHeartbeats 4000000 in
theorem sX1_strip_0 {N : Nat} {z : Nat} {T : zS}  {S : zS} {Sr : zS} {x0 : Nat} {x1 : Int32} (hR : zR rows lm u z S Sr) (nx0 : zn rows x0) (h : fX1_strip_0 N S x0 x1 = some T) : zw (rX1_strip_0 N Sr x0 x1) (sV rows lm u z T) := by
  unfold fX1_strip_0 at h
  unfold rX1_strip_0
  exact tX1_strip_4  hR nx0 h
theorem sX1_strip {N : Nat} {z : Nat} {T : zS} {S : zS} {Sr : zS} {x0 : Nat} {x1 : Int32} (hR : zR rows lm u z S Sr) (nx0 : zn rows x0) (h : fX1_strip N S x0 x1 = some T) : zw (rX1_strip N Sr x0 x1) (sV rows lm u z T) := sX1_strip_0 hR nx0 h
set_option maxRecDepth 100000 in
set_option maxHeartbeats 4000000 in
theorem sX1_runTool_180 {N : Nat} {r : Int32} {T : zS}  {S : zS} {Sr : zS} {z : Nat} (hR : zR rows lm u z S Sr) (h : fX1_runTool_180 N S = some (r, T)) : zw (rX1_runTool_180 N Sr z) (tQ rows lm u z r T) := by
  unfold fX1_runTool_180 at h
  unfold rX1_runTool_180
  refine zgeI_w (Nat.le_refl _) ?_
  cases h
  exact zw.s ⟨rfl, Nat.le_refl _, hR⟩
set_option maxRecDepth 100000 in
set_option maxHeartbeats 4000000 in
theorem sX1_runTool_94 {N : Nat} {r : Int32} {T : zS}  {S : zS} {Sr : zS} {z : Nat} {x0 : Nat} {x2 : Nat} {x3 : Int32} {x4 : Int32} {x5 : Int32} {y0 : Nat} {y1 : Int32} {y2 : Nat} {y3 : Int32} (hR : zR rows lm u z S Sr) (nx0 : zn rows x0) (nx2 : zn rows x2) (ny0 : zn rows y0) (ny2 : zn rows y2) (h : fX1_runTool_94 N S x0 x2 x3 x4 x5 y0 y1 y2 y3 = some (r, T)) : zw (rX1_runTool_94 N Sr z x0 x2 x3 x4 x5 y0 y1 y2 y3) (tQ rows lm u z r T) := by
  unfold fX1_runTool_94 at h
  unfold rX1_runTool_94
  refine zgeI_w (Nat.le_refl _) ?_
  obtain ⟨u1, eu1, h⟩ := zb_some h
  refine zw.e (hR.rc eu1) ?_
  obtain ⟨v4, S2, eS2, h⟩ := zb2_some h
  refine sc3 (sX1_join hR ny0 ny2 eS2) (fun S2r z3 hmz3 hR => ?_)
  refine zgeI_w hmz3 ?_
  by_cases c : v4 = (0 : Int32)
  · have h := (if_pos c).symm.trans h
    refine zw.t c ?_
    cases h
    exact zw.s ⟨rfl, Nat.le_refl _, hR⟩
  · have h := (if_neg c).symm.trans h
    refine zw.f c ?_
    by_cases c1 : x3 = (1 : Int32)
    · have h := (if_pos c1).symm.trans h
      refine zw.t c1 ?_
      obtain ⟨u5, eu5, h⟩ := zb_some h
      refine zw.e (hR.rc eu5) ?_
      obtain ⟨v8, S6, eS6, h⟩ := zb2_some h
      refine sc3 (sX5_put hR nx2 eS6) (fun S6r z7 hmz7 hR => ?_)
      refine zgeI_w hmz7 ?_
      cases h
      exact zw.s ⟨rfl, Nat.le_refl _, hR⟩
    have h := (if_neg c1).symm.trans h
    refine zw.f c1 ?_
    by_cases c2 : x3 = (2 : Int32)
    · have h := (if_pos c2).symm.trans h
      refine zw.t c2 ?_
      exact sX1_runTool_180  hR h
    have h := (if_neg c2).symm.trans h
    refine zw.f c2 ?_
    by_cases c3 : x3 = (3 : Int32)
    · have h := (if_pos c3).symm.trans h
      refine zw.t c3 ?_
      obtain ⟨S9, eS9, h⟩ := zb_some h
      refine zw.c (sX1_strip hR nx2 eS9) (fun S9r hR => ?_)
      cases h
      exact zw.s ⟨rfl, Nat.le_refl _, hR⟩
    have h := (if_neg c3).symm.trans h
    refine zw.f c3 ?_
    by_cases c4 : x3 = (4 : Int32)
    · have h := (if_pos c4).symm.trans h
      refine zw.t c4 ?_
      obtain ⟨S10, eS10, h⟩ := zb_some h
      refine zw.c (sX1_mask hR nx2 eS10) (fun S10r hR => ?_)
      cases h
      exact zw.s ⟨rfl, Nat.le_refl _, hR⟩
    have h := (if_neg c4).symm.trans h
    refine zw.f c4 ?_
    by_cases c5 : x3 = (5 : Int32)
    · have h := (if_pos c5).symm.trans h
      refine zw.t c5 ?_
      exact sX1_runTool_180  hR h
    have h := (if_neg c5).symm.trans h
    refine zw.f c5 ?_
    by_cases c6 : x3 = (6 : Int32)
    · have h := (if_pos c6).symm.trans h
      refine zw.t c6 ?_
      obtain ⟨u11, eu11, h⟩ := zb_some h
      refine zw.e (hR.rc eu11) ?_
      obtain ⟨S12, eS12, h⟩ := zb_some h
      refine sc2z (sX1_sort hR nx0 nx2 eS12) (fun S12r z13 hmz13 hR => ?_)
      refine zgeI_w hmz13 ?_
      cases h
      exact zw.s ⟨rfl, Nat.le_refl _, hR⟩
    have h := (if_neg c6).symm.trans h
    refine zw.f c6 ?_
    by_cases c7 : x3 = (7 : Int32)
    · have h := (if_pos c7).symm.trans h
      refine zw.t c7 ?_
      obtain ⟨S14, eS14, h⟩ := zb_some h
      refine sc2z (sX1_sign hR nx2 eS14) (fun S14r z15 hmz15 hR => ?_)
      refine zgeI_w hmz15 ?_
      cases h
      exact zw.s ⟨rfl, Nat.le_refl _, hR⟩
    have h := (if_neg c7).symm.trans h
    refine zw.f c7 ?_
    exact sX1_runTool_180  hR h
set_option maxRecDepth 100000 in
set_option maxHeartbeats 4000000 in
theorem sX1_runTool_93 {N : Nat} {r : Int32} {T : zS}  {S : zS} {Sr : zS} {z : Nat} {x0 : Nat} {x2 : Nat} {x3 : Int32} {x4 : Int32} {x5 : Int32} {y0 : Nat} {y1 : Int32} {y2 : Nat} (hR : zR rows lm u z S Sr) (nx0 : zn rows x0) (nx2 : zn rows x2) (ny0 : zn rows y0) (ny2 : zn rows y2) (h : fX1_runTool_93 N S x0 x2 x3 x4 x5 y0 y1 y2 = some (r, T)) : zw (rX1_runTool_93 N Sr z x0 x2 x3 x4 x5 y0 y1 y2) (tQ rows lm u z r T) := by
  unfold fX1_runTool_93 at h
  unfold rX1_runTool_93
  refine zgeI_w (Nat.le_refl _) ?_
  exact sX1_runTool_94  hR nx0 nx2 ny0 ny2 h
set_option maxRecDepth 100000 in
set_option maxHeartbeats 4000000 in
theorem sX1_runTool_67 {N : Nat} {r : Int32} {T : zS}  {S : zS} {Sr : zS} {z : Nat} {y0 : Nat} {y1 : Nat} {y2 : Int32} {y3 : Int32} (hR : zR rows lm u z S Sr) (ny0 : zn rows y0) (ny1 : zn rows y1) (h : fX1_runTool_67 N S y0 y1 y2 y3 = some (r, T)) : zw (rX1_runTool_67 N Sr z y0 y1 y2 y3) (tQ rows lm u z r T) := by
  unfold fX1_runTool_67 at h
  unfold rX1_runTool_67
  refine zgeI_w (Nat.le_refl _) ?_
  obtain ⟨u16, eu16, h⟩ := zb_some h
  refine zw.e (hR.rc eu16) ?_
  obtain ⟨v18, S17, eS17, h⟩ := zb2_some h
  refine scA (sX1_inputRow hR ny1 eS17) (fun S17r nv18 hR => ?_)
  obtain ⟨u19, eu19, h⟩ := zb_some h
  refine zw.e (hR.rc eu19) ?_
  obtain ⟨v22, S20, eS20, h⟩ := zb2_some h
  refine sc3 (sX5_append hR ny0 nv18 eS20) (fun S20r z21 hmz21 hR => ?_)
  refine zgeI_w hmz21 ?_
  cases h
  exact zw.s ⟨rfl, Nat.le_refl _, hR⟩
set_option maxRecDepth 100000 in
set_option maxHeartbeats 4000000 in
theorem sX1_runTool_0 {N : Nat} {r : Int32} {T : zS}  {S : zS} {Sr : zS} {z : Nat} {x0 : Nat} {x1 : Int32} {x2 : Nat} (hR : zR rows lm u z S Sr) (nx0 : zn rows x0) (nx2 : zn rows x2) (h : fX1_runTool_0 N S x0 x1 x2 = some (r, T)) : zw (rX1_runTool_0 N Sr z x0 x1 x2) (tQ rows lm u z r T) := by
  unfold fX1_runTool_0 at h
  unfold rX1_runTool_0
  refine zgeI_w (Nat.le_refl _) ?_
  obtain ⟨v23, ev23, h⟩ := zb_some h
  have nv23 := hR.gn (by decide) ev23
  refine zw.e (hR.gr (by decide) ev23) ?_
  obtain ⟨v24, ev24, h⟩ := zb_some h
  have nv24 := hR.gn (by decide) ev24
  refine zw.e (hR.gr (by decide) ev24) ?_
  obtain ⟨v25, ev25, h⟩ := zb_some h
  refine zw.e (hR.il nv24 ev25) ?_
  obtain ⟨v26, ev26, h⟩ := zb_some h
  have nv26 := hR.gn (by decide) ev26
  refine zw.e (hR.gr (by decide) ev26) ?_
  obtain ⟨v27, ev27, h⟩ := zb_some h
  have nv27 := hR.gn (by decide) ev27
  refine zw.e (hR.gr (by decide) ev27) ?_
  obtain ⟨v28, ev28, h⟩ := zb_some h
  refine zw.e (hR.il nv27 ev28) ?_
  obtain ⟨v29, ev29, h⟩ := zb_some h
  have nv29 := hR.gn (by decide) ev29
  refine zw.e (hR.gr (by decide) ev29) ?_
  obtain ⟨v30, ev30, h⟩ := zb_some h
  have nv30 := hR.gn (by decide) ev30
  refine zw.e (hR.gr (by decide) ev30) ?_
  obtain ⟨v31, ev31, h⟩ := zb_some h
  have nv31 := hR.gn (by decide) ev31
  refine zw.e (hR.gr (by decide) ev31) ?_
  obtain ⟨v32, ev32, h⟩ := zb_some h
  refine zw.e (hR.il nv31 ev32) ?_
  obtain ⟨v33, ev33, h⟩ := zb_some h
  refine zw.e (hR.il nv29 ev33) ?_
  by_cases c : v25 = (5 : Int32)
  · have h := (if_pos c).symm.trans h
    refine zw.t c ?_
    by_cases c : v28 ≤ v33
    · have h := (if_pos c).symm.trans h
      refine zw.t c ?_
      obtain ⟨v34, ev34, h⟩ := zb_some h
      have nv34 := hR.gn (by decide) ev34
      refine zw.e (hR.gr (by decide) ev34) ?_
      obtain ⟨v35, ev35, h⟩ := zb_some h
      have nv35 := hR.gn (by decide) ev35
      refine zw.e (hR.gr (by decide) ev35) ?_
      obtain ⟨v36, ev36, h⟩ := zb_some h
      refine zw.e (hR.il nv35 ev36) ?_
      exact sX1_runTool_67  hR nx2 nx0 h
    · have h := (if_neg c).symm.trans h
      refine zw.f c ?_
      exact sX1_runTool_67  hR nx2 nx0 h
  · have h := (if_neg c).symm.trans h
    refine zw.f c ?_
    by_cases c : v25 = (2 : Int32)
    · have h := (if_pos c).symm.trans h
      refine zw.t c ?_
      by_cases c : (v33 &&& (1 : Int32)) = (0 : Int32)
      · have h := (if_pos c).symm.trans h
        refine zw.t c ?_
        exact sX1_runTool_93  hR nx0 nx2 nx0 nx2 h
      · have h := (if_neg c).symm.trans h
        refine zw.f c ?_
        exact sX1_runTool_94  hR nx0 nx2 nx0 nx2 h
    · have h := (if_neg c).symm.trans h
      refine zw.f c ?_
      exact sX1_runTool_93  hR nx0 nx2 nx0 nx2 h
theorem sX1_runTool {N : Nat} {r : Int32} {T : zS} {S : zS} {Sr : zS} {z : Nat} {x0 : Nat} {x1 : Int32} {x2 : Nat} (hR : zR rows lm u z S Sr) (nx0 : zn rows x0) (nx2 : zn rows x2) (h : fX1_runTool N S x0 x1 x2 = some (r, T)) : zw (rX1_runTool N Sr z x0 x1 x2) (tQ rows lm u z r T) := sX1_runTool_0 hR nx0 nx2 h
set_option maxRecDepth 100000 in
set_option maxHeartbeats 4000000 in
theorem sX1_make_69 {N : Nat} {T : zS} {Kv2 : zS × Nat × Int32 × Int32 → Option (zS)} {K2 : zS × Nat × Nat × Int32 × Int32 → Option (zS × Nat)} (hK2 : ∀ (S : zS) (Sr : zS) (z : Nat) (x0 : Nat) (x1 : Int32) (x2 : Int32), zR rows lm u z S Sr → zn rows x0 → Kv2 (S, x0, x1, x2) = some T → zw (K2 (Sr, z, x0, x1, x2)) (tV rows lm u z T)) {S : zS} {Sr : zS} {z : Nat} {x0 : Nat} {x1 : Int32} {x2 : Int32} (hR : zR rows lm u z S Sr) (nx0 : zn rows x0) (h : fX1_make_69 N Kv2 S x0 x1 x2 = some T) : zw (rX1_make_69 N K2 Sr z x0 x1 x2) (tV rows lm u z T) := by
  unfold fX1_make_69 at h
  unfold rX1_make_69
  refine zgeV_w (Nat.le_refl _) ?_
  exact hK2 _ _ _ _ _ _ hR nx0 h
set_option maxRecDepth 100000 in
set_option maxHeartbeats 4000000 in
theorem sX1_make_68 {N : Nat} {T : zS} {Kv2 : zS × Nat × Int32 × Int32 → Option (zS)} {K2 : zS × Nat × Nat × Int32 × Int32 → Option (zS × Nat)} (hK2 : ∀ (S : zS) (Sr : zS) (z : Nat) (x0 : Nat) (x1 : Int32) (x2 : Int32), zR rows lm u z S Sr → zn rows x0 → Kv2 (S, x0, x1, x2) = some T → zw (K2 (Sr, z, x0, x1, x2)) (tV rows lm u z T)) {S : zS} {Sr : zS} {z : Nat} {x0 : Nat} {x1 : Int32} {x2 : Int32} {y0 : Nat} {y1 : Int32} {y2 : Int32} (hR : zR rows lm u z S Sr) (nx0 : zn rows x0) (ny0 : zn rows y0) (h : fX1_make_68 N Kv2 S x0 x1 x2 y0 y1 y2 = some T) : zw (rX1_make_68 N K2 Sr z x0 x1 x2 y0 y1 y2) (tV rows lm u z T) := by
  unfold fX1_make_68 at h
  unfold rX1_make_68
  refine zgeV_w (Nat.le_refl _) ?_
  obtain ⟨S1, eS1, h⟩ := zb_some h
  obtain ⟨S1r, qS1, hR⟩ := hR.zs eS1
  refine zw.e qS1 ?_
  exact sX1_make_69 hK2  hR nx0 h
set_option maxRecDepth 100000 in
set_option maxHeartbeats 4000000 in
theorem sX1_make_63 {N : Nat} {T : zS} {Kv2 : zS × Nat × Int32 × Int32 → Option (zS)} {K2 : zS × Nat × Nat × Int32 × Int32 → Option (zS × Nat)} (hK2 : ∀ (S : zS) (Sr : zS) (z : Nat) (x0 : Nat) (x1 : Int32) (x2 : Int32), zR rows lm u z S Sr → zn rows x0 → Kv2 (S, x0, x1, x2) = some T → zw (K2 (Sr, z, x0, x1, x2)) (tV rows lm u z T)) {S : zS} {Sr : zS} {z : Nat} {x0 : Nat} {x1 : Int32} {x2 : Int32} {y0 : Nat} {y1 : Int32} (hR : zR rows lm u z S Sr) (nx0 : zn rows x0) (ny0 : zn rows y0) (h : fX1_make_63 N Kv2 S x0 x1 x2 y0 y1 = some T) : zw (rX1_make_63 N K2 Sr z x0 x1 x2 y0 y1) (tV rows lm u z T) := by
  unfold fX1_make_63 at h
  unfold rX1_make_63
  refine zgeV_w (Nat.le_refl _) ?_
  exact sX1_make_68 hK2  hR nx0 ny0 h
set_option maxRecDepth 100000 in
set_option maxHeartbeats 4000000 in
theorem sX1_make_2 {N : Nat} {T : zS} {Kv2 : zS × Nat × Int32 × Int32 → Option (zS)} {K2 : zS × Nat × Nat × Int32 × Int32 → Option (zS × Nat)} (hK2 : ∀ (S : zS) (Sr : zS) (z : Nat) (x0 : Nat) (x1 : Int32) (x2 : Int32), zR rows lm u z S Sr → zn rows x0 → Kv2 (S, x0, x1, x2) = some T → zw (K2 (Sr, z, x0, x1, x2)) (tV rows lm u z T)) {S : zS} {Sr : zS} {z : Nat} {x0 : Nat} {x1 : Int32} {x2 : Int32} (hR : zR rows lm u z S Sr) (nx0 : zn rows x0) (h : fX1_make_2 N Kv2 S x0 x1 x2 = some T) : zw (rX1_make_2 N K2 Sr z x0 x1 x2) (tV rows lm u z T) := by
  unfold fX1_make_2 at h
  unfold rX1_make_2
  refine zgeV_w (Nat.le_refl _) ?_
  obtain ⟨v2, ev2, h⟩ := zb_some h
  have nv2 := hR.gn (by decide) ev2
  refine zw.e (hR.gr (by decide) ev2) ?_
  obtain ⟨v3, ev3, h⟩ := zb_some h
  refine zw.e (hR.gi (by decide) ev3) ?_
  by_cases c : v3 ≤ x2
  · have h := (if_pos c).symm.trans h
    refine zw.t c ?_
    obtain ⟨v4, ev4, h⟩ := zb_some h
    refine zw.e (hR.gi (by decide) ev4) ?_
    obtain ⟨S5, eS5, h⟩ := zb_some h
    obtain ⟨S5r, qS5, hR⟩ := hR.pi (by decide) eS5
    refine zw.e qS5 ?_
    cases h
    exact zw.s ⟨Nat.le_refl _, hR⟩
  · have h := (if_neg c).symm.trans h
    refine zw.f c ?_
    obtain ⟨v6, ev6, h⟩ := zb_some h
    refine zw.e (hR.gi (by decide) ev6) ?_
    by_cases c : ((x1 &&& v6) &&& ((1 : Int32) <<< (x2 &&& 31))) = (0 : Int32)
    · have h := (if_pos c).symm.trans h
      refine zw.t c ?_
      exact sX1_make_69 hK2  hR nx0 h
    · have h := (if_neg c).symm.trans h
      refine zw.f c ?_
      obtain ⟨v7, ev7, h⟩ := zb_some h
      have nv7 := hR.gn (by decide) ev7
      refine zw.e (hR.gr (by decide) ev7) ?_
      obtain ⟨v8, ev8, h⟩ := zb_some h
      have nv8 := hR.an (by decide) ev8
      refine zw.e (hR.al (by decide) ev8) ?_
      obtain ⟨S9, eS9, h⟩ := zb_some h
      obtain ⟨S9r, qS9, hR⟩ := hR.pz eS9
      refine zw.e qS9 ?_
      obtain ⟨v10, ev10, h⟩ := zb_some h
      have nv10 := hR.gn (by decide) ev10
      refine zw.e (hR.gr (by decide) ev10) ?_
      obtain ⟨u11, eu11, h⟩ := zb_some h
      refine zw.e (hR.rc eu11) ?_
      obtain ⟨v13, S12, eS12, h⟩ := zb2_some h
      refine sc2 (sX1_hasGoodInputs hR nx0 eS12) (fun S12r hR => ?_)
      by_cases c : v13 = (0 : Int32)
      · have h := (if_pos c).symm.trans h
        refine zw.t c ?_
        exact sX1_make_63 hK2  hR nx0 nv10 h
      · have h := (if_neg c).symm.trans h
        refine zw.f c ?_
        obtain ⟨v14, ev14, h⟩ := zb_some h
        have nv14 := hR.gn (by decide) ev14
        refine zw.e (hR.gr (by decide) ev14) ?_
        obtain ⟨v15, ev15, h⟩ := zb_some h
        have nv15 := hR.an (by decide) ev15
        refine zw.e (hR.al (by decide) ev15) ?_
        obtain ⟨u16, eu16, h⟩ := zb_some h
        refine zw.e (hR.rc eu16) ?_
        obtain ⟨v19, S17, eS17, h⟩ := zb2_some h
        refine sc3 (sX1_runTool hR nx0 nv15 eS17) (fun S17r z18 hmz18 hR => ?_)
        refine zgeV_w hmz18 ?_
        by_cases c : v19 = (0 : Int32)
        · have h := (if_pos c).symm.trans h
          refine zw.t c ?_
          exact sX1_make_63 hK2  hR nx0 nv10 h
        · have h := (if_neg c).symm.trans h
          refine zw.f c ?_
          exact sX1_make_68 hK2  hR nx0 nv10 h
set_option maxRecDepth 100000 in
set_option maxHeartbeats 4000000 in
theorem tX1_make_2 {N : Nat} {T : zS}  {S : zS} {Sr : zS} {z : Nat} {x0 : Nat} {x1 : Int32} {x2 : Int32} (hR : zR rows lm u z S Sr) (nx0 : zn rows x0) (h : lX1_make_2 N S x0 x1 x2 = some T) : zw (rlX1_make_2 N Sr z x0 x1 x2) (tV rows lm u z T) := by
  unfold lX1_make_2 at h
  unfold rlX1_make_2
  refine zl_sim (I := fun y y' => ∃ (S : zS) (Sr : zS) (z : Nat) (x0 : Nat) (x1 : Int32) (x2 : Int32), y = (S, x0, x1, x2) ∧ y' = (Sr, z, x0, x1, x2) ∧ zR rows lm u z S Sr ∧ zn rows x0) (Q := fun y' => (tV rows lm u y'.2.1 T)) ?_ N _ _ ⟨S, Sr, z, x0, x1, x2, rfl, rfl, hR, nx0⟩ h
  rintro K K' hK y y' ⟨S, Sr, z, x0, x1, x2, rfl, rfl, hR, nx0⟩ h
  exact sX1_make_2 (fun S Sr z x0 x1 x2 hR nx0 h => hK _ _ ⟨S, Sr, z, x0, x1, x2, rfl, rfl, hR, nx0⟩ h) hR nx0 h
set_option maxRecDepth 100000 in
set_option maxHeartbeats 4000000 in
theorem sX1_make_0 {N : Nat} {T : zS}  {S : zS} {Sr : zS} {z : Nat} {x0 : Nat} {x1 : Int32} (hR : zR rows lm u z S Sr) (nx0 : zn rows x0) (h : fX1_make_0 N S x0 x1 = some T) : zw (rX1_make_0 N Sr z x0 x1) (tV rows lm u z T) := by
  unfold fX1_make_0 at h
  unfold rX1_make_0
  refine zgeV_w (Nat.le_refl _) ?_
  exact tX1_make_2  hR nx0 h
theorem sX1_make {N : Nat} {T : zS} {S : zS} {Sr : zS} {z : Nat} {x0 : Nat} {x1 : Int32} (hR : zR rows lm u z S Sr) (nx0 : zn rows x0) (h : fX1_make N S x0 x1 = some T) : zw (rX1_make N Sr z x0 x1) (tV rows lm u z T) := sX1_make_0 hR nx0 h
set_option maxRecDepth 100000 in
set_option maxHeartbeats 4000000 in
theorem sX1_makeIn_0 {N : Nat} {T : zS}  {S : zS} {Sr : zS} {z : Nat} {x0 : Nat} {x1 : Nat} {x2 : Int32} (hR : zR rows lm u z S Sr) (nx0 : zn rows x0) (nx1 : zn rows x1) (h : fX1_makeIn_0 N S x0 x1 x2 = some T) : zw (rX1_makeIn_0 N Sr z x0 x1 x2) (tV rows lm u z T) := by
  unfold fX1_makeIn_0 at h
  unfold rX1_makeIn_0
  refine zgeV_w (Nat.le_refl _) ?_
  obtain ⟨u1, eu1, h⟩ := zb_some h
  refine zw.e (hR.rc eu1) ?_
  obtain ⟨S2, eS2, h⟩ := zb_some h
  refine zw.c (sX1_open hR nx0 nx1 eS2) (fun S2r hR => ?_)
  obtain ⟨v3, ev3, h⟩ := zb_some h
  have nv3 := hR.gn (by decide) ev3
  refine zw.e (hR.gr (by decide) ev3) ?_
  obtain ⟨v4, ev4, h⟩ := zb_some h
  have nv4 := hR.gn (by decide) ev4
  refine zw.e (hR.gr (by decide) ev4) ?_
  obtain ⟨v5, ev5, h⟩ := zb_some h
  refine zw.e (hR.il nv4 ev5) ?_
  obtain ⟨u6, eu6, h⟩ := zb_some h
  refine zw.e (hR.rc eu6) ?_
  obtain ⟨S7, eS7, h⟩ := zb_some h
  refine sc2z (sX1_make hR nx0 eS7) (fun S7r z8 hmz8 hR => ?_)
  refine zgeV_w hmz8 ?_
  cases h
  exact zw.s ⟨Nat.le_refl _, hR⟩
theorem sX1_makeIn {N : Nat} {T : zS} {S : zS} {Sr : zS} {z : Nat} {x0 : Nat} {x1 : Nat} {x2 : Int32} (hR : zR rows lm u z S Sr) (nx0 : zn rows x0) (nx1 : zn rows x1) (h : fX1_makeIn N S x0 x1 x2 = some T) : zw (rX1_makeIn N Sr z x0 x1 x2) (tV rows lm u z T) := sX1_makeIn_0 hR nx0 nx1 h
set_option maxRecDepth 100000 in
set_option maxHeartbeats 4000000 in
theorem sX4_stepsReachedBy_31 {N : Nat} {z : Nat} {r : Int32} {T : zS} {Kv4 : zS × Nat × Int32 × Int32 × Int32 → Option (Int32 × zS)} {K4 : zS × Nat × Int32 × Int32 × Int32 → Option (Int32 × zS)} (hK4 : ∀ (S : zS) (Sr : zS) (x0 : Nat) (x1 : Int32) (x2 : Int32) (x3 : Int32), zR rows lm u z S Sr → zn rows x0 → Kv4 (S, x0, x1, x2, x3) = some (r, T) → zw (K4 (Sr, x0, x1, x2, x3)) (sQ rows lm u z r T)) {S : zS} {Sr : zS} {x0 : Nat} {x1 : Int32} {x2 : Int32} {x3 : Int32} (hR : zR rows lm u z S Sr) (nx0 : zn rows x0) (h : fX4_stepsReachedBy_31 N Kv4 S x0 x1 x2 x3 = some (r, T)) : zw (rX4_stepsReachedBy_31 N K4 Sr x0 x1 x2 x3) (sQ rows lm u z r T) := by
  unfold fX4_stepsReachedBy_31 at h
  unfold rX4_stepsReachedBy_31
  exact hK4 _ _ _ _ _ _ hR nx0 h
set_option maxRecDepth 100000 in
set_option maxHeartbeats 4000000 in
theorem sX4_stepsReachedBy_4 {N : Nat} {z : Nat} {r : Int32} {T : zS} {Kv4 : zS × Nat × Int32 × Int32 × Int32 → Option (Int32 × zS)} {K4 : zS × Nat × Int32 × Int32 × Int32 → Option (Int32 × zS)} (hK4 : ∀ (S : zS) (Sr : zS) (x0 : Nat) (x1 : Int32) (x2 : Int32) (x3 : Int32), zR rows lm u z S Sr → zn rows x0 → Kv4 (S, x0, x1, x2, x3) = some (r, T) → zw (K4 (Sr, x0, x1, x2, x3)) (sQ rows lm u z r T)) {S : zS} {Sr : zS} {x0 : Nat} {x1 : Int32} {x2 : Int32} {x3 : Int32} (hR : zR rows lm u z S Sr) (nx0 : zn rows x0) (h : fX4_stepsReachedBy_4 N Kv4 S x0 x1 x2 x3 = some (r, T)) : zw (rX4_stepsReachedBy_4 N K4 Sr x0 x1 x2 x3) (sQ rows lm u z r T) := by
  unfold fX4_stepsReachedBy_4 at h
  unfold rX4_stepsReachedBy_4
  obtain ⟨v1, ev1, h⟩ := zb_some h
  refine zw.e (hR.gi (by decide) ev1) ?_
  by_cases c : v1 ≤ x3
  · have h := (if_pos c).symm.trans h
    refine zw.t c ?_
    cases h
    exact zw.s ⟨rfl, hR⟩
  · have h := (if_neg c).symm.trans h
    refine zw.f c ?_
    obtain ⟨v2, ev2, h⟩ := zb_some h
    have nv2 := hR.gn (by decide) ev2
    refine zw.e (hR.gr (by decide) ev2) ?_
    obtain ⟨v3, ev3, h⟩ := zb_some h
    refine zw.e (hR.il nv2 ev3) ?_
    by_cases c : ((zush v3 x1) &&& (1 : Int32)) = (0 : Int32)
    · have h := (if_pos c).symm.trans h
      refine zw.t c ?_
      exact sX4_stepsReachedBy_31 hK4  hR nx0 h
    · have h := (if_neg c).symm.trans h
      refine zw.f c ?_
      obtain ⟨v4, ev4⟩ : ∃ y : Int32, y = (x2 ||| ((1 : Int32) <<< (x3 &&& 31))) := ⟨_, rfl⟩
      have h := zlet_at ev4 h
      refine zw_let ev4 ?_
      exact sX4_stepsReachedBy_31 hK4  hR nx0 h
set_option maxRecDepth 100000 in
set_option maxHeartbeats 4000000 in
theorem tX4_stepsReachedBy_4 {N : Nat} {z : Nat} {r : Int32} {T : zS}  {S : zS} {Sr : zS} {x0 : Nat} {x1 : Int32} {x2 : Int32} {x3 : Int32} (hR : zR rows lm u z S Sr) (nx0 : zn rows x0) (h : lX4_stepsReachedBy_4 N S x0 x1 x2 x3 = some (r, T)) : zw (rlX4_stepsReachedBy_4 N Sr x0 x1 x2 x3) (sQ rows lm u z r T) := by
  unfold lX4_stepsReachedBy_4 at h
  unfold rlX4_stepsReachedBy_4
  refine zl_sim (I := fun y y' => ∃ (S : zS) (Sr : zS) (x0 : Nat) (x1 : Int32) (x2 : Int32) (x3 : Int32), y = (S, x0, x1, x2, x3) ∧ y' = (Sr, x0, x1, x2, x3) ∧ zR rows lm u z S Sr ∧ zn rows x0) (Q := fun y' => (sQ rows lm u z r T)) ?_ N _ _ ⟨S, Sr, x0, x1, x2, x3, rfl, rfl, hR, nx0⟩ h
  rintro K K' hK y y' ⟨S, Sr, x0, x1, x2, x3, rfl, rfl, hR, nx0⟩ h
  exact sX4_stepsReachedBy_4 (fun S Sr x0 x1 x2 x3 hR nx0 h => hK _ _ ⟨S, Sr, x0, x1, x2, x3, rfl, rfl, hR, nx0⟩ h) hR nx0 h
set_option maxRecDepth 100000 in
set_option maxHeartbeats 4000000 in
theorem sX4_stepsReachedBy_0 {N : Nat} {z : Nat} {r : Int32} {T : zS}  {S : zS} {Sr : zS} {x0 : Nat} {x1 : Int32} (hR : zR rows lm u z S Sr) (nx0 : zn rows x0) (h : fX4_stepsReachedBy_0 N S x0 x1 = some (r, T)) : zw (rX4_stepsReachedBy_0 N Sr x0 x1) (sQ rows lm u z r T) := by
  unfold fX4_stepsReachedBy_0 at h
  unfold rX4_stepsReachedBy_0
  exact tX4_stepsReachedBy_4  hR nx0 h
theorem sX4_stepsReachedBy {N : Nat} {z : Nat} {r : Int32} {T : zS} {S : zS} {Sr : zS} {x0 : Nat} {x1 : Int32} (hR : zR rows lm u z S Sr) (nx0 : zn rows x0) (h : fX4_stepsReachedBy N S x0 x1 = some (r, T)) : zw (rX4_stepsReachedBy N Sr x0 x1) (sQ rows lm u z r T) := sX4_stepsReachedBy_0 hR nx0 h
set_option maxRecDepth 100000 in
set_option maxHeartbeats 4000000 in
theorem sX1_turn_34 {N : Nat} {z : Nat} {T : zS}  {S : zS} {Sr : zS} (hR : zR rows lm u z S Sr) (h : fX1_turn_34 N S = some T) : zw (rX1_turn_34 N Sr) (sV rows lm u z T) := by
  unfold fX1_turn_34 at h
  unfold rX1_turn_34
  cases h
  exact zw.s hR
set_option maxRecDepth 100000 in
set_option maxHeartbeats 4000000 in
theorem sX1_turn_0 {N : Nat} {z : Nat} {T : zS}  {S : zS} {Sr : zS} {x0 : Nat} {x1 : Int32} {x2 : Int32} (hR : zR rows lm u z S Sr) (nx0 : zn rows x0) (h : fX1_turn_0 N S x0 x1 x2 = some T) : zw (rX1_turn_0 N Sr x0 x1 x2) (sV rows lm u z T) := by
  unfold fX1_turn_0 at h
  unfold rX1_turn_0
  obtain ⟨v1, ev1, h⟩ := zb_some h
  have nv1 := hR.gn (by decide) ev1
  refine zw.e (hR.gr (by decide) ev1) ?_
  obtain ⟨v2, ev2, h⟩ := zb_some h
  refine zw.e (hR.il nv1 ev2) ?_
  by_cases c : v2 = x2
  · have h := (if_pos c).symm.trans h
    refine zw.t c ?_
    exact sX1_turn_34  hR h
  · have h := (if_neg c).symm.trans h
    refine zw.f c ?_
    obtain ⟨v3, ev3, h⟩ := zb_some h
    have nv3 := hR.gn (by decide) ev3
    refine zw.e (hR.gr (by decide) ev3) ?_
    obtain ⟨S4, eS4, h⟩ := zb_some h
    obtain ⟨S4r, qS4, hR⟩ := hR.is nv3 eS4
    refine zw.e qS4 ?_
    obtain ⟨v5, ev5, h⟩ := zb_some h
    refine zw.e (hR.gi (by decide) ev5) ?_
    obtain ⟨v6, ev6, h⟩ := zb_some h
    have nv6 := hR.gn (by decide) ev6
    refine zw.e (hR.gr (by decide) ev6) ?_
    obtain ⟨u7, eu7, h⟩ := zb_some h
    refine zw.e (hR.rc eu7) ?_
    obtain ⟨v9, S8, eS8, h⟩ := zb2_some h
    refine sc2 (sX4_stepsReachedBy hR nv6 eS8) (fun S8r hR => ?_)
    obtain ⟨S10, eS10, h⟩ := zb_some h
    obtain ⟨S10r, qS10, hR⟩ := hR.pi (by decide) eS10
    refine zw.e qS10 ?_
    exact sX1_turn_34  hR h
theorem sX1_turn {N : Nat} {z : Nat} {T : zS} {S : zS} {Sr : zS} {x0 : Nat} {x1 : Int32} {x2 : Int32} (hR : zR rows lm u z S Sr) (nx0 : zn rows x0) (h : fX1_turn N S x0 x1 x2 = some T) : zw (rX1_turn N Sr x0 x1 x2) (sV rows lm u z T) := sX1_turn_0 hR nx0 h
set_option maxRecDepth 100000 in
set_option maxHeartbeats 4000000 in
theorem sX4_ownWord_34 {N : Nat} {z : Nat} {r : Int32} {T : zS}  {S : zS} {Sr : zS} {y0 : Int32} (hR : zR rows lm u z S Sr) (h : fX4_ownWord_34 N S y0 = some (r, T)) : zw (rX4_ownWord_34 N Sr y0) (sQ rows lm u z r T) := by
  unfold fX4_ownWord_34 at h
  unfold rX4_ownWord_34
  cases h
  exact zw.s ⟨rfl, hR⟩
set_option maxRecDepth 100000 in
set_option maxHeartbeats 4000000 in
theorem sX4_ownWord_22 {N : Nat} {z : Nat} {r : Int32} {T : zS}  {S : zS} {Sr : zS} {x0 : Nat} {x1 : Int32} (hR : zR rows lm u z S Sr) (nx0 : zn rows x0) (h : fX4_ownWord_22 N S x0 x1 = some (r, T)) : zw (rX4_ownWord_22 N Sr x0 x1) (sQ rows lm u z r T) := by
  unfold fX4_ownWord_22 at h
  unfold rX4_ownWord_22
  obtain ⟨v1, ev1, h⟩ := zb_some h
  have nv1 := hR.gn (by decide) ev1
  refine zw.e (hR.gr (by decide) ev1) ?_
  obtain ⟨v2, ev2, h⟩ := zb_some h
  refine zw.e (hR.il nv1 ev2) ?_
  exact sX4_ownWord_34  hR h
set_option maxRecDepth 100000 in
set_option maxHeartbeats 4000000 in
theorem sX4_ownWord_0 {N : Nat} {z : Nat} {r : Int32} {T : zS}  {S : zS} {Sr : zS} {x0 : Nat} {x1 : Int32} (hR : zR rows lm u z S Sr) (nx0 : zn rows x0) (h : fX4_ownWord_0 N S x0 x1 = some (r, T)) : zw (rX4_ownWord_0 N Sr x0 x1) (sQ rows lm u z r T) := by
  unfold fX4_ownWord_0 at h
  unfold rX4_ownWord_0
  obtain ⟨v3, ev3, h⟩ := zb_some h
  have nv3 := hR.gn (by decide) ev3
  refine zw.e (hR.gr (by decide) ev3) ?_
  obtain ⟨v4, ev4, h⟩ := zb_some h
  refine zw.e (hR.il nv3 ev4) ?_
  by_cases c : v4 = (1 : Int32)
  · have h := (if_pos c).symm.trans h
    refine zw.t c ?_
    exact sX4_ownWord_22  hR nx0 h
  · have h := (if_neg c).symm.trans h
    refine zw.f c ?_
    by_cases c : v4 = (2 : Int32)
    · have h := (if_pos c).symm.trans h
      refine zw.t c ?_
      exact sX4_ownWord_22  hR nx0 h
    · have h := (if_neg c).symm.trans h
      refine zw.f c ?_
      by_cases c : v4 = (5 : Int32)
      · have h := (if_pos c).symm.trans h
        refine zw.t c ?_
        exact sX4_ownWord_22  hR nx0 h
      · have h := (if_neg c).symm.trans h
        refine zw.f c ?_
        exact sX4_ownWord_34  hR h
theorem sX4_ownWord {N : Nat} {z : Nat} {r : Int32} {T : zS} {S : zS} {Sr : zS} {x0 : Nat} {x1 : Int32} (hR : zR rows lm u z S Sr) (nx0 : zn rows x0) (h : fX4_ownWord N S x0 x1 = some (r, T)) : zw (rX4_ownWord N Sr x0 x1) (sQ rows lm u z r T) := sX4_ownWord_0 hR nx0 h
set_option maxRecDepth 100000 in
set_option maxHeartbeats 4000000 in
theorem sX1_wordsRead_43 {N : Nat} {z : Nat} {r : Int32} {T : zS} {Kv4 : zS × Nat × Int32 × Int32 × Int32 → Option (Int32 × zS)} {K4 : zS × Nat × Int32 × Int32 × Int32 → Option (Int32 × zS)} (hK4 : ∀ (S : zS) (Sr : zS) (x0 : Nat) (x1 : Int32) (x2 : Int32) (x3 : Int32), zR rows lm u z S Sr → zn rows x0 → Kv4 (S, x0, x1, x2, x3) = some (r, T) → zw (K4 (Sr, x0, x1, x2, x3)) (sQ rows lm u z r T)) {S : zS} {Sr : zS} {x0 : Nat} {x1 : Int32} {x2 : Int32} {x3 : Int32} (hR : zR rows lm u z S Sr) (nx0 : zn rows x0) (h : fX1_wordsRead_43 N Kv4 S x0 x1 x2 x3 = some (r, T)) : zw (rX1_wordsRead_43 N K4 Sr x0 x1 x2 x3) (sQ rows lm u z r T) := by
  unfold fX1_wordsRead_43 at h
  unfold rX1_wordsRead_43
  exact hK4 _ _ _ _ _ _ hR nx0 h
set_option maxRecDepth 100000 in
set_option maxHeartbeats 4000000 in
theorem sX1_wordsRead_4 {N : Nat} {z : Nat} {r : Int32} {T : zS} {Kv4 : zS × Nat × Int32 × Int32 × Int32 → Option (Int32 × zS)} {K4 : zS × Nat × Int32 × Int32 × Int32 → Option (Int32 × zS)} (hK4 : ∀ (S : zS) (Sr : zS) (x0 : Nat) (x1 : Int32) (x2 : Int32) (x3 : Int32), zR rows lm u z S Sr → zn rows x0 → Kv4 (S, x0, x1, x2, x3) = some (r, T) → zw (K4 (Sr, x0, x1, x2, x3)) (sQ rows lm u z r T)) {S : zS} {Sr : zS} {x0 : Nat} {x1 : Int32} {x2 : Int32} {x3 : Int32} (hR : zR rows lm u z S Sr) (nx0 : zn rows x0) (h : fX1_wordsRead_4 N Kv4 S x0 x1 x2 x3 = some (r, T)) : zw (rX1_wordsRead_4 N K4 Sr x0 x1 x2 x3) (sQ rows lm u z r T) := by
  unfold fX1_wordsRead_4 at h
  unfold rX1_wordsRead_4
  obtain ⟨v1, ev1, h⟩ := zb_some h
  have nv1 := hR.gn (by decide) ev1
  refine zw.e (hR.gr (by decide) ev1) ?_
  obtain ⟨v2, ev2, h⟩ := zb_some h
  refine zw.e (hR.gi (by decide) ev2) ?_
  by_cases c : v2 ≤ x3
  · have h := (if_pos c).symm.trans h
    refine zw.t c ?_
    cases h
    exact zw.s ⟨rfl, hR⟩
  · have h := (if_neg c).symm.trans h
    refine zw.f c ?_
    by_cases c : ((zush x1 x3) &&& (1 : Int32)) = (0 : Int32)
    · have h := (if_pos c).symm.trans h
      refine zw.t c ?_
      exact sX1_wordsRead_43 hK4  hR nx0 h
    · have h := (if_neg c).symm.trans h
      refine zw.f c ?_
      obtain ⟨v3, ev3, h⟩ := zb_some h
      have nv3 := hR.gn (by decide) ev3
      refine zw.e (hR.gr (by decide) ev3) ?_
      obtain ⟨v4, ev4, h⟩ := zb_some h
      refine zw.e (hR.zl ev4) ?_
      by_cases c : v4 = (0 : Int32)
      · have h := (if_pos c).symm.trans h
        refine zw.t c ?_
        obtain ⟨v5, ev5, h⟩ := zb_some h
        have nv5 := hR.gn (by decide) ev5
        refine zw.e (hR.gr (by decide) ev5) ?_
        obtain ⟨u6, eu6, h⟩ := zb_some h
        refine zw.e (hR.rc eu6) ?_
        obtain ⟨v8, S7, eS7, h⟩ := zb2_some h
        refine sc2 (sX4_ownWord hR nv5 eS7) (fun S7r hR => ?_)
        exact sX1_wordsRead_43 hK4  hR nx0 h
      · have h := (if_neg c).symm.trans h
        refine zw.f c ?_
        exact sX1_wordsRead_43 hK4  hR nx0 h
set_option maxRecDepth 100000 in
set_option maxHeartbeats 4000000 in
theorem tX1_wordsRead_4 {N : Nat} {z : Nat} {r : Int32} {T : zS}  {S : zS} {Sr : zS} {x0 : Nat} {x1 : Int32} {x2 : Int32} {x3 : Int32} (hR : zR rows lm u z S Sr) (nx0 : zn rows x0) (h : lX1_wordsRead_4 N S x0 x1 x2 x3 = some (r, T)) : zw (rlX1_wordsRead_4 N Sr x0 x1 x2 x3) (sQ rows lm u z r T) := by
  unfold lX1_wordsRead_4 at h
  unfold rlX1_wordsRead_4
  refine zl_sim (I := fun y y' => ∃ (S : zS) (Sr : zS) (x0 : Nat) (x1 : Int32) (x2 : Int32) (x3 : Int32), y = (S, x0, x1, x2, x3) ∧ y' = (Sr, x0, x1, x2, x3) ∧ zR rows lm u z S Sr ∧ zn rows x0) (Q := fun y' => (sQ rows lm u z r T)) ?_ N _ _ ⟨S, Sr, x0, x1, x2, x3, rfl, rfl, hR, nx0⟩ h
  rintro K K' hK y y' ⟨S, Sr, x0, x1, x2, x3, rfl, rfl, hR, nx0⟩ h
  exact sX1_wordsRead_4 (fun S Sr x0 x1 x2 x3 hR nx0 h => hK _ _ ⟨S, Sr, x0, x1, x2, x3, rfl, rfl, hR, nx0⟩ h) hR nx0 h
set_option maxRecDepth 100000 in
set_option maxHeartbeats 4000000 in
theorem sX1_wordsRead_0 {N : Nat} {z : Nat} {r : Int32} {T : zS}  {S : zS} {Sr : zS} {x0 : Nat} {x1 : Int32} (hR : zR rows lm u z S Sr) (nx0 : zn rows x0) (h : fX1_wordsRead_0 N S x0 x1 = some (r, T)) : zw (rX1_wordsRead_0 N Sr x0 x1) (sQ rows lm u z r T) := by
  unfold fX1_wordsRead_0 at h
  unfold rX1_wordsRead_0
  exact tX1_wordsRead_4  hR nx0 h
theorem sX1_wordsRead {N : Nat} {z : Nat} {r : Int32} {T : zS} {S : zS} {Sr : zS} {x0 : Nat} {x1 : Int32} (hR : zR rows lm u z S Sr) (nx0 : zn rows x0) (h : fX1_wordsRead N S x0 x1 = some (r, T)) : zw (rX1_wordsRead N Sr x0 x1) (sQ rows lm u z r T) := sX1_wordsRead_0 hR nx0 h
set_option maxRecDepth 100000 in
set_option maxHeartbeats 4000000 in
theorem sX2_way_46 {N : Nat} {z : Nat} {r : Int32} {T : zS}  {S : zS} {Sr : zS} {x2 : Int32} (hR : zR rows lm u z S Sr) (h : fX2_way_46 N S x2 = some (r, T)) : zw (rX2_way_46 N Sr x2) (sQ rows lm u z r T) := by
  unfold fX2_way_46 at h
  unfold rX2_way_46
  cases h
  exact zw.s ⟨rfl, hR⟩
set_option maxRecDepth 100000 in
set_option maxHeartbeats 4000000 in
theorem sX2_way_7 {N : Nat} {z : Nat} {r : Int32} {T : zS} {Kv7 : zS × Nat × Int32 × Int32 × Int32 → Option (Int32 × zS)} {K7 : zS × Nat × Int32 × Int32 × Int32 → Option (Int32 × zS)} (hK7 : ∀ (S : zS) (Sr : zS) (x0 : Nat) (x2 : Int32) (x3 : Int32) (x4 : Int32), zR rows lm u z S Sr → zn rows x0 → Kv7 (S, x0, x2, x3, x4) = some (r, T) → zw (K7 (Sr, x0, x2, x3, x4)) (sQ rows lm u z r T)) {S : zS} {Sr : zS} {x0 : Nat} {x2 : Int32} {x3 : Int32} {x4 : Int32} (hR : zR rows lm u z S Sr) (nx0 : zn rows x0) (h : fX2_way_7 N Kv7 S x0 x2 x3 x4 = some (r, T)) : zw (rX2_way_7 N K7 Sr x0 x2 x3 x4) (sQ rows lm u z r T) := by
  unfold fX2_way_7 at h
  unfold rX2_way_7
  by_cases c : (30 : Int32) ≤ x4
  · have h := (if_pos c).symm.trans h
    refine zw.t c ?_
    exact sX2_way_46  hR h
  · have h := (if_neg c).symm.trans h
    refine zw.f c ?_
    by_cases c : x3 = (-1 : Int32)
    · have h := (if_pos c).symm.trans h
      refine zw.t c ?_
      exact sX2_way_46  hR h
    · have h := (if_neg c).symm.trans h
      refine zw.f c ?_
      by_cases c : ((zush x2 x3) &&& (1 : Int32)) = (0 : Int32)
      · have h := (if_pos c).symm.trans h
        refine zw.t c ?_
        obtain ⟨v1, ev1⟩ : ∃ y : Int32, y = (x2 ||| ((1 : Int32) <<< (x3 &&& 31))) := ⟨_, rfl⟩
        have h := zlet_at ev1 h
        refine zw_let ev1 ?_
        obtain ⟨v2, ev2, h⟩ := zb_some h
        have nv2 := hR.gn (by decide) ev2
        refine zw.e (hR.gr (by decide) ev2) ?_
        obtain ⟨v3, ev3, h⟩ := zb_some h
        refine zw.e (hR.il nv2 ev3) ?_
        exact hK7 _ _ _ _ _ _ hR nx0 h
      · have h := (if_neg c).symm.trans h
        refine zw.f c ?_
        exact sX2_way_46  hR h
set_option maxRecDepth 100000 in
set_option maxHeartbeats 4000000 in
theorem tX2_way_7 {N : Nat} {z : Nat} {r : Int32} {T : zS}  {S : zS} {Sr : zS} {x0 : Nat} {x2 : Int32} {x3 : Int32} {x4 : Int32} (hR : zR rows lm u z S Sr) (nx0 : zn rows x0) (h : lX2_way_7 N S x0 x2 x3 x4 = some (r, T)) : zw (rlX2_way_7 N Sr x0 x2 x3 x4) (sQ rows lm u z r T) := by
  unfold lX2_way_7 at h
  unfold rlX2_way_7
  refine zl_sim (I := fun y y' => ∃ (S : zS) (Sr : zS) (x0 : Nat) (x2 : Int32) (x3 : Int32) (x4 : Int32), y = (S, x0, x2, x3, x4) ∧ y' = (Sr, x0, x2, x3, x4) ∧ zR rows lm u z S Sr ∧ zn rows x0) (Q := fun y' => (sQ rows lm u z r T)) ?_ N _ _ ⟨S, Sr, x0, x2, x3, x4, rfl, rfl, hR, nx0⟩ h
  rintro K K' hK y y' ⟨S, Sr, x0, x2, x3, x4, rfl, rfl, hR, nx0⟩ h
  exact sX2_way_7 (fun S Sr x0 x2 x3 x4 hR nx0 h => hK _ _ ⟨S, Sr, x0, x2, x3, x4, rfl, rfl, hR, nx0⟩ h) hR nx0 h
set_option maxRecDepth 100000 in
set_option maxHeartbeats 4000000 in
theorem sX2_way_0 {N : Nat} {z : Nat} {r : Int32} {T : zS}  {S : zS} {Sr : zS} {x0 : Nat} {x1 : Int32} (hR : zR rows lm u z S Sr) (nx0 : zn rows x0) (h : fX2_way_0 N S x0 x1 = some (r, T)) : zw (rX2_way_0 N Sr x0 x1) (sQ rows lm u z r T) := by
  unfold fX2_way_0 at h
  unfold rX2_way_0
  exact tX2_way_7  hR nx0 h
theorem sX2_way {N : Nat} {z : Nat} {r : Int32} {T : zS} {S : zS} {Sr : zS} {x0 : Nat} {x1 : Int32} (hR : zR rows lm u z S Sr) (nx0 : zn rows x0) (h : fX2_way N S x0 x1 = some (r, T)) : zw (rX2_way N Sr x0 x1) (sQ rows lm u z r T) := sX2_way_0 hR nx0 h
set_option maxRecDepth 100000 in
set_option maxHeartbeats 4000000 in
theorem sJ6_bitCount_0f7a4_0 {N : Nat} {z : Nat} {r : Int32} {T : zS}  {S : zS} {Sr : zS} {x0 : Int32} (hR : zR rows lm u z S Sr) (h : fJ6_bitCount_0f7a4_0 N S x0 = some (r, T)) : zw (fJ6_bitCount_0f7a4_0 N Sr x0) (sQ rows lm u z r T) := by
  unfold fJ6_bitCount_0f7a4_0 at h
  unfold fJ6_bitCount_0f7a4_0
  obtain ⟨v1, ev1⟩ : ∃ y : Int32, y = (x0 - ((zush x0 (1 : Int32)) &&& (1431655765 : Int32))) := ⟨_, rfl⟩
  have h := zlet_at ev1 h
  refine zw_let ev1 ?_
  obtain ⟨v2, ev2⟩ : ∃ y : Int32, y = ((v1 &&& (858993459 : Int32)) + ((zush v1 (2 : Int32)) &&& (858993459 : Int32))) := ⟨_, rfl⟩
  have h := zlet_at ev2 h
  refine zw_let ev2 ?_
  obtain ⟨v3, ev3⟩ : ∃ y : Int32, y = ((v2 + (zush v2 (4 : Int32))) &&& (252645135 : Int32)) := ⟨_, rfl⟩
  have h := zlet_at ev3 h
  refine zw_let ev3 ?_
  obtain ⟨v4, ev4⟩ : ∃ y : Int32, y = (v3 + (zush v3 (8 : Int32))) := ⟨_, rfl⟩
  have h := zlet_at ev4 h
  refine zw_let ev4 ?_
  obtain ⟨v5, ev5⟩ : ∃ y : Int32, y = (v4 + (zush v4 (16 : Int32))) := ⟨_, rfl⟩
  have h := zlet_at ev5 h
  refine zw_let ev5 ?_
  cases h
  exact zw.s ⟨rfl, hR⟩
theorem sJ6_bitCount_0f7a4 {N : Nat} {z : Nat} {r : Int32} {T : zS} {S : zS} {Sr : zS} {x0 : Int32} (hR : zR rows lm u z S Sr) (h : fJ6_bitCount_0f7a4 N S x0 = some (r, T)) : zw (fJ6_bitCount_0f7a4 N Sr x0) (sQ rows lm u z r T) := sJ6_bitCount_0f7a4_0 hR h
set_option maxRecDepth 100000 in
set_option maxHeartbeats 4000000 in
theorem sX2_after_29 {N : Nat} {z : Nat} {r : Int32} {T : zS}  {S : zS} {Sr : zS} {x3 : Int32} (hR : zR rows lm u z S Sr) (h : fX2_after_29 N S x3 = some (r, T)) : zw (rX2_after_29 N Sr x3) (sQ rows lm u z r T) := by
  unfold fX2_after_29 at h
  unfold rX2_after_29
  cases h
  exact zw.s ⟨rfl, hR⟩
set_option maxRecDepth 100000 in
set_option maxHeartbeats 4000000 in
theorem sX2_after_5 {N : Nat} {z : Nat} {r : Int32} {T : zS} {Kv5 : zS × Nat × Int32 × Int32 × Int32 → Option (Int32 × zS)} {K5 : zS × Nat × Int32 × Int32 × Int32 → Option (Int32 × zS)} (hK5 : ∀ (S : zS) (Sr : zS) (x0 : Nat) (x2 : Int32) (x3 : Int32) (x4 : Int32), zR rows lm u z S Sr → zn rows x0 → Kv5 (S, x0, x2, x3, x4) = some (r, T) → zw (K5 (Sr, x0, x2, x3, x4)) (sQ rows lm u z r T)) {S : zS} {Sr : zS} {x0 : Nat} {x2 : Int32} {x3 : Int32} {x4 : Int32} (hR : zR rows lm u z S Sr) (nx0 : zn rows x0) (h : fX2_after_5 N Kv5 S x0 x2 x3 x4 = some (r, T)) : zw (rX2_after_5 N K5 Sr x0 x2 x3 x4) (sQ rows lm u z r T) := by
  unfold fX2_after_5 at h
  unfold rX2_after_5
  by_cases c : x2 ≤ x4
  · have h := (if_pos c).symm.trans h
    refine zw.t c ?_
    exact sX2_after_29  hR h
  · have h := (if_neg c).symm.trans h
    refine zw.f c ?_
    by_cases c : x3 = (-1 : Int32)
    · have h := (if_pos c).symm.trans h
      refine zw.t c ?_
      exact sX2_after_29  hR h
    · have h := (if_neg c).symm.trans h
      refine zw.f c ?_
      obtain ⟨v1, ev1, h⟩ := zb_some h
      have nv1 := hR.gn (by decide) ev1
      refine zw.e (hR.gr (by decide) ev1) ?_
      obtain ⟨v2, ev2, h⟩ := zb_some h
      refine zw.e (hR.il nv1 ev2) ?_
      exact hK5 _ _ _ _ _ _ hR nx0 h
set_option maxRecDepth 100000 in
set_option maxHeartbeats 4000000 in
theorem tX2_after_5 {N : Nat} {z : Nat} {r : Int32} {T : zS}  {S : zS} {Sr : zS} {x0 : Nat} {x2 : Int32} {x3 : Int32} {x4 : Int32} (hR : zR rows lm u z S Sr) (nx0 : zn rows x0) (h : lX2_after_5 N S x0 x2 x3 x4 = some (r, T)) : zw (rlX2_after_5 N Sr x0 x2 x3 x4) (sQ rows lm u z r T) := by
  unfold lX2_after_5 at h
  unfold rlX2_after_5
  refine zl_sim (I := fun y y' => ∃ (S : zS) (Sr : zS) (x0 : Nat) (x2 : Int32) (x3 : Int32) (x4 : Int32), y = (S, x0, x2, x3, x4) ∧ y' = (Sr, x0, x2, x3, x4) ∧ zR rows lm u z S Sr ∧ zn rows x0) (Q := fun y' => (sQ rows lm u z r T)) ?_ N _ _ ⟨S, Sr, x0, x2, x3, x4, rfl, rfl, hR, nx0⟩ h
  rintro K K' hK y y' ⟨S, Sr, x0, x2, x3, x4, rfl, rfl, hR, nx0⟩ h
  exact sX2_after_5 (fun S Sr x0 x2 x3 x4 hR nx0 h => hK _ _ ⟨S, Sr, x0, x2, x3, x4, rfl, rfl, hR, nx0⟩ h) hR nx0 h
set_option maxRecDepth 100000 in
set_option maxHeartbeats 4000000 in
theorem sX2_after_0 {N : Nat} {z : Nat} {r : Int32} {T : zS}  {S : zS} {Sr : zS} {x0 : Nat} {x1 : Int32} {x2 : Int32} (hR : zR rows lm u z S Sr) (nx0 : zn rows x0) (h : fX2_after_0 N S x0 x1 x2 = some (r, T)) : zw (rX2_after_0 N Sr x0 x1 x2) (sQ rows lm u z r T) := by
  unfold fX2_after_0 at h
  unfold rX2_after_0
  exact tX2_after_5  hR nx0 h
theorem sX2_after {N : Nat} {z : Nat} {r : Int32} {T : zS} {S : zS} {Sr : zS} {x0 : Nat} {x1 : Int32} {x2 : Int32} (hR : zR rows lm u z S Sr) (nx0 : zn rows x0) (h : fX2_after N S x0 x1 x2 = some (r, T)) : zw (rX2_after N Sr x0 x1 x2) (sQ rows lm u z r T) := sX2_after_0 hR nx0 h
end
