section
variable {rows : List Nat} {lm u : Nat}
set_option maxRecDepth 100000 in
set_option maxHeartbeats 4000000 in
theorem sX7_buildBoth_0 {N : Nat} {T : zS}  {S : zS} {Sr : zS} {z : Nat} {x0 : Nat} {x1 : Int32} {x2 : Int32} {x3 : Int32} (hR : zR rows lm u z S Sr) (nx0 : zn rows x0) (h : fX7_buildBoth_0 N S x0 x1 x2 x3 = some T) : zw (rX7_buildBoth_0 N Sr z x0 x1 x2 x3) (tV rows lm u z T) := by
  unfold fX7_buildBoth_0 at h
  unfold rX7_buildBoth_0
  refine zgeV_w (Nat.le_refl _) ?_
  obtain ⟨v1, ev1, h⟩ := zb_some h
  have nv1 := hR.gn (by decide) ev1
  refine zw.e (hR.gr (by decide) ev1) ?_
  obtain ⟨v2, ev2, h⟩ := zb_some h
  have nv2 := hR.gn (by decide) ev2
  refine zw.e (hR.gr (by decide) ev2) ?_
  obtain ⟨v3, ev3, h⟩ := zb_some h
  have nv3 := hR.an (by decide) ev3
  refine zw.e (hR.al (by decide) ev3) ?_
  obtain ⟨u4, eu4, h⟩ := zb_some h
  refine zw.e (hR.rc eu4) ?_
  obtain ⟨S5, eS5, h⟩ := zb_some h
  refine sc2z (sX1_makeIn hR nv1 nv3 eS5) (fun S5r z6 hmz6 hR => ?_)
  refine zgeV_w hmz6 ?_
  obtain ⟨v7, ev7, h⟩ := zb_some h
  have nv7 := hR.gn (by decide) ev7
  refine zw.e (hR.gr (by decide) ev7) ?_
  obtain ⟨v8, ev8, h⟩ := zb_some h
  have nv8 := hR.gn (by decide) ev8
  refine zw.e (hR.gr (by decide) ev8) ?_
  obtain ⟨v9, ev9, h⟩ := zb_some h
  have nv9 := hR.an (by decide) ev9
  refine zw.e (hR.al (by decide) ev9) ?_
  obtain ⟨u10, eu10, h⟩ := zb_some h
  refine zw.e (hR.rc eu10) ?_
  obtain ⟨S11, eS11, h⟩ := zb_some h
  refine sc2z (sX1_makeIn hR nv7 nv9 eS11) (fun S11r z12 hmz12 hR => ?_)
  refine zgeV_w hmz12 ?_
  cases h
  exact zw.s ⟨Nat.le_refl _, hR⟩
theorem sX7_buildBoth {N : Nat} {T : zS} {S : zS} {Sr : zS} {z : Nat} {x0 : Nat} {x1 : Int32} {x2 : Int32} {x3 : Int32} (hR : zR rows lm u z S Sr) (nx0 : zn rows x0) (h : fX7_buildBoth N S x0 x1 x2 x3 = some T) : zw (rX7_buildBoth N Sr z x0 x1 x2 x3) (tV rows lm u z T) := sX7_buildBoth_0 hR nx0 h
set_option maxRecDepth 100000 in
set_option maxHeartbeats 4000000 in
theorem sX7_sameThing_53 {N : Nat} {z : Nat} {r : Int32} {T : zS}  {S : zS} {Sr : zS} {y0 : Int32} (hR : zR rows lm u z S Sr) (h : fX7_sameThing_53 N S y0 = some (r, T)) : zw (rX7_sameThing_53 N Sr y0) (sQ rows lm u z r T) := by
  unfold fX7_sameThing_53 at h
  unfold rX7_sameThing_53
  cases h
  exact zw.s ⟨rfl, hR⟩
set_option maxRecDepth 100000 in
set_option maxHeartbeats 4000000 in
theorem sX7_sameThing_52 {N : Nat} {z : Nat} {r : Int32} {T : zS}  {S : zS} {Sr : zS} (hR : zR rows lm u z S Sr) (h : fX7_sameThing_52 N S = some (r, T)) : zw (rX7_sameThing_52 N Sr) (sQ rows lm u z r T) := by
  unfold fX7_sameThing_52 at h
  unfold rX7_sameThing_52
  exact sX7_sameThing_53  hR h
set_option maxRecDepth 100000 in
set_option maxHeartbeats 4000000 in
theorem sX7_sameThing_24 {N : Nat} {z : Nat} {r : Int32} {T : zS}  {S : zS} {Sr : zS} {x0 : Nat} {x1 : Int32} (hR : zR rows lm u z S Sr) (nx0 : zn rows x0) (h : fX7_sameThing_24 N S x0 x1 = some (r, T)) : zw (rX7_sameThing_24 N Sr x0 x1) (sQ rows lm u z r T) := by
  unfold fX7_sameThing_24 at h
  unfold rX7_sameThing_24
  obtain ⟨v1, ev1, h⟩ := zb_some h
  have nv1 := hR.gn (by decide) ev1
  refine zw.e (hR.gr (by decide) ev1) ?_
  obtain ⟨v2, ev2, h⟩ := zb_some h
  have nv2 := hR.gn (by decide) ev2
  refine zw.e (hR.gr (by decide) ev2) ?_
  obtain ⟨v3, ev3, h⟩ := zb_some h
  refine zw.e (hR.zl ev3) ?_
  by_cases c : v3 = (0 : Int32)
  · have h := (if_pos c).symm.trans h
    refine zw.t c ?_
    exact sX7_sameThing_52  hR h
  · have h := (if_neg c).symm.trans h
    refine zw.f c ?_
    obtain ⟨v4, ev4, h⟩ := zb_some h
    have nv4 := hR.gn (by decide) ev4
    refine zw.e (hR.gr (by decide) ev4) ?_
    obtain ⟨v5, ev5, h⟩ := zb_some h
    have nv5 := hR.gn (by decide) ev5
    refine zw.e (hR.gr (by decide) ev5) ?_
    obtain ⟨v6, ev6, h⟩ := zb_some h
    refine zw.e (hR.zl ev6) ?_
    by_cases c : v6 = (0 : Int32)
    · have h := (if_pos c).symm.trans h
      refine zw.t c ?_
      exact sX7_sameThing_52  hR h
    · have h := (if_neg c).symm.trans h
      refine zw.f c ?_
      exact sX7_sameThing_53  hR h
set_option maxRecDepth 100000 in
set_option maxHeartbeats 4000000 in
theorem sX7_sameThing_0 {N : Nat} {z : Nat} {r : Int32} {T : zS}  {S : zS} {Sr : zS} {x0 : Nat} {x1 : Int32} (hR : zR rows lm u z S Sr) (nx0 : zn rows x0) (h : fX7_sameThing_0 N S x0 x1 = some (r, T)) : zw (rX7_sameThing_0 N Sr x0 x1) (sQ rows lm u z r T) := by
  unfold fX7_sameThing_0 at h
  unfold rX7_sameThing_0
  obtain ⟨v7, ev7, h⟩ := zb_some h
  have nv7 := hR.gn (by decide) ev7
  refine zw.e (hR.gr (by decide) ev7) ?_
  obtain ⟨v8, ev8, h⟩ := zb_some h
  have nv8 := hR.gn (by decide) ev8
  refine zw.e (hR.gr (by decide) ev8) ?_
  obtain ⟨v9, ev9, h⟩ := zb_some h
  refine zw.e (hR.zl ev9) ?_
  by_cases c : v9 = (0 : Int32)
  · have h := (if_pos c).symm.trans h
    refine zw.t c ?_
    obtain ⟨v10, ev10, h⟩ := zb_some h
    have nv10 := hR.gn (by decide) ev10
    refine zw.e (hR.gr (by decide) ev10) ?_
    obtain ⟨v11, ev11, h⟩ := zb_some h
    have nv11 := hR.gn (by decide) ev11
    refine zw.e (hR.gr (by decide) ev11) ?_
    obtain ⟨v12, ev12, h⟩ := zb_some h
    refine zw.e (hR.zl ev12) ?_
    by_cases c : v12 = (0 : Int32)
    · have h := (if_pos c).symm.trans h
      refine zw.t c ?_
      obtain ⟨v13, ev13, h⟩ := zb_some h
      have nv13 := hR.gn (by decide) ev13
      refine zw.e (hR.gr (by decide) ev13) ?_
      obtain ⟨v14, ev14, h⟩ := zb_some h
      have nv14 := hR.gn (by decide) ev14
      refine zw.e (hR.gr (by decide) ev14) ?_
      obtain ⟨v15, ev15, h⟩ := zb_some h
      have nv15 := hR.an (by decide) ev15
      refine zw.e (hR.al (by decide) ev15) ?_
      obtain ⟨v16, ev16, h⟩ := zb_some h
      have nv16 := hR.gn (by decide) ev16
      refine zw.e (hR.gr (by decide) ev16) ?_
      obtain ⟨v17, ev17, h⟩ := zb_some h
      have nv17 := hR.gn (by decide) ev17
      refine zw.e (hR.gr (by decide) ev17) ?_
      obtain ⟨v18, ev18, h⟩ := zb_some h
      have nv18 := hR.an (by decide) ev18
      refine zw.e (hR.al (by decide) ev18) ?_
      obtain ⟨u19, eu19, h⟩ := zb_some h
      refine zw.e (hR.rc eu19) ?_
      obtain ⟨v21, S20, eS20, h⟩ := zb2_some h
      refine sc2 (sX5_isSameAs hR nv15 nv18 eS20) (fun S20r hR => ?_)
      cases h
      exact zw.s ⟨rfl, hR⟩
    · have h := (if_neg c).symm.trans h
      refine zw.f c ?_
      exact sX7_sameThing_24  hR nx0 h
  · have h := (if_neg c).symm.trans h
    refine zw.f c ?_
    exact sX7_sameThing_24  hR nx0 h
theorem sX7_sameThing {N : Nat} {z : Nat} {r : Int32} {T : zS} {S : zS} {Sr : zS} {x0 : Nat} {x1 : Int32} (hR : zR rows lm u z S Sr) (nx0 : zn rows x0) (h : fX7_sameThing N S x0 x1 = some (r, T)) : zw (rX7_sameThing N Sr x0 x1) (sQ rows lm u z r T) := sX7_sameThing_0 hR nx0 h
set_option maxRecDepth 100000 in
set_option maxHeartbeats 4000000 in
theorem sX7_alike_38 {N : Nat} {r : Int32} {T : zS}  {S : zS} {Sr : zS} {z : Nat} {y0 : Int32} (hR : zR rows lm u z S Sr) (h : fX7_alike_38 N S y0 = some (r, T)) : zw (rX7_alike_38 N Sr z y0) (tQ rows lm u z r T) := by
  unfold fX7_alike_38 at h
  unfold rX7_alike_38
  refine zgeI_w (Nat.le_refl _) ?_
  cases h
  exact zw.s ⟨rfl, Nat.le_refl _, hR⟩
set_option maxRecDepth 100000 in
set_option maxHeartbeats 4000000 in
theorem sX7_alike_16 {N : Nat} {r : Int32} {T : zS}  {S : zS} {Sr : zS} {z : Nat} (hR : zR rows lm u z S Sr) (h : fX7_alike_16 N S = some (r, T)) : zw (rX7_alike_16 N Sr z) (tQ rows lm u z r T) := by
  unfold fX7_alike_16 at h
  unfold rX7_alike_16
  refine zgeI_w (Nat.le_refl _) ?_
  cases h
  exact zw.s ⟨rfl, Nat.le_refl _, hR⟩
set_option maxRecDepth 100000 in
set_option maxHeartbeats 4000000 in
theorem sX7_alike_0 {N : Nat} {r : Int32} {T : zS}  {S : zS} {Sr : zS} {z : Nat} {x0 : Nat} {x1 : Int32} {x2 : Int32} {x3 : Int32} (hR : zR rows lm u z S Sr) (nx0 : zn rows x0) (h : fX7_alike_0 N S x0 x1 x2 x3 = some (r, T)) : zw (rX7_alike_0 N Sr z x0 x1 x2 x3) (tQ rows lm u z r T) := by
  unfold fX7_alike_0 at h
  unfold rX7_alike_0
  refine zgeI_w (Nat.le_refl _) ?_
  obtain ⟨v2, S1, eS1, h⟩ := zb2_some h
  refine sc2 (sX7_areRooms hR eS1) (fun S1r hR => ?_)
  by_cases c : v2 = (0 : Int32)
  · have h := (if_pos c).symm.trans h
    refine zw.t c ?_
    exact sX7_alike_16  hR h
  · have h := (if_neg c).symm.trans h
    refine zw.f c ?_
    obtain ⟨u3, eu3, h⟩ := zb_some h
    refine zw.e (hR.rc eu3) ?_
    obtain ⟨v5, S4, eS4, h⟩ := zb2_some h
    refine sc2 (sX7_isStep hR nx0 eS4) (fun S4r hR => ?_)
    by_cases c : v5 = (0 : Int32)
    · have h := (if_pos c).symm.trans h
      refine zw.t c ?_
      exact sX7_alike_16  hR h
    · have h := (if_neg c).symm.trans h
      refine zw.f c ?_
      obtain ⟨u6, eu6, h⟩ := zb_some h
      refine zw.e (hR.rc eu6) ?_
      obtain ⟨S7, eS7, h⟩ := zb_some h
      refine sc2z (sX7_buildBoth hR nx0 eS7) (fun S7r z8 hmz8 hR => ?_)
      refine zgeI_w hmz8 ?_
      obtain ⟨u9, eu9, h⟩ := zb_some h
      refine zw.e (hR.rc eu9) ?_
      obtain ⟨v11, S10, eS10, h⟩ := zb2_some h
      refine sc2 (sX7_sameThing hR nx0 eS10) (fun S10r hR => ?_)
      by_cases c : v11 = (0 : Int32)
      · have h := (if_pos c).symm.trans h
        refine zw.t c ?_
        exact sX7_alike_38  hR h
      · have h := (if_neg c).symm.trans h
        refine zw.f c ?_
        exact sX7_alike_38  hR h
theorem sX7_alike {N : Nat} {r : Int32} {T : zS} {S : zS} {Sr : zS} {z : Nat} {x0 : Nat} {x1 : Int32} {x2 : Int32} {x3 : Int32} (hR : zR rows lm u z S Sr) (nx0 : zn rows x0) (h : fX7_alike N S x0 x1 x2 x3 = some (r, T)) : zw (rX7_alike N Sr z x0 x1 x2 x3) (tQ rows lm u z r T) := sX7_alike_0 hR nx0 h
set_option maxRecDepth 100000 in
set_option maxHeartbeats 4000000 in
theorem sX7_changes_49 {N : Nat} {r : Int32} {T : zS}  {S : zS} {Sr : zS} {z : Nat} (hR : zR rows lm u z S Sr) (h : fX7_changes_49 N S = some (r, T)) : zw (rX7_changes_49 N Sr z) (tQ rows lm u z r T) := by
  unfold fX7_changes_49 at h
  unfold rX7_changes_49
  refine zgeI_w (Nat.le_refl _) ?_
  cases h
  exact zw.s ⟨rfl, Nat.le_refl _, hR⟩
set_option maxRecDepth 100000 in
set_option maxHeartbeats 4000000 in
theorem sX7_changes_16 {N : Nat} {r : Int32} {T : zS}  {S : zS} {Sr : zS} {z : Nat} (hR : zR rows lm u z S Sr) (h : fX7_changes_16 N S = some (r, T)) : zw (rX7_changes_16 N Sr z) (tQ rows lm u z r T) := by
  unfold fX7_changes_16 at h
  unfold rX7_changes_16
  refine zgeI_w (Nat.le_refl _) ?_
  cases h
  exact zw.s ⟨rfl, Nat.le_refl _, hR⟩
set_option maxRecDepth 100000 in
set_option maxHeartbeats 4000000 in
theorem sX7_changes_0 {N : Nat} {r : Int32} {T : zS}  {S : zS} {Sr : zS} {z : Nat} {x0 : Nat} {x1 : Int32} {x2 : Int32} {x3 : Int32} (hR : zR rows lm u z S Sr) (nx0 : zn rows x0) (h : fX7_changes_0 N S x0 x1 x2 x3 = some (r, T)) : zw (rX7_changes_0 N Sr z x0 x1 x2 x3) (tQ rows lm u z r T) := by
  unfold fX7_changes_0 at h
  unfold rX7_changes_0
  refine zgeI_w (Nat.le_refl _) ?_
  obtain ⟨v2, S1, eS1, h⟩ := zb2_some h
  refine sc2 (sX7_areRooms hR eS1) (fun S1r hR => ?_)
  by_cases c : v2 = (0 : Int32)
  · have h := (if_pos c).symm.trans h
    refine zw.t c ?_
    exact sX7_changes_16  hR h
  · have h := (if_neg c).symm.trans h
    refine zw.f c ?_
    obtain ⟨u3, eu3, h⟩ := zb_some h
    refine zw.e (hR.rc eu3) ?_
    obtain ⟨v5, S4, eS4, h⟩ := zb2_some h
    refine sc2 (sX7_isStep hR nx0 eS4) (fun S4r hR => ?_)
    by_cases c : v5 = (0 : Int32)
    · have h := (if_pos c).symm.trans h
      refine zw.t c ?_
      exact sX7_changes_16  hR h
    · have h := (if_neg c).symm.trans h
      refine zw.f c ?_
      obtain ⟨u6, eu6, h⟩ := zb_some h
      refine zw.e (hR.rc eu6) ?_
      obtain ⟨S7, eS7, h⟩ := zb_some h
      refine sc2z (sX7_buildBoth hR nx0 eS7) (fun S7r z8 hmz8 hR => ?_)
      refine zgeI_w hmz8 ?_
      obtain ⟨v9, ev9, h⟩ := zb_some h
      have nv9 := hR.gn (by decide) ev9
      refine zw.e (hR.gr (by decide) ev9) ?_
      obtain ⟨v10, ev10, h⟩ := zb_some h
      have nv10 := hR.gn (by decide) ev10
      refine zw.e (hR.gr (by decide) ev10) ?_
      obtain ⟨v11, ev11, h⟩ := zb_some h
      refine zw.e (hR.zl ev11) ?_
      by_cases c : v11 = (0 : Int32)
      · have h := (if_pos c).symm.trans h
        refine zw.t c ?_
        obtain ⟨v12, ev12, h⟩ := zb_some h
        have nv12 := hR.gn (by decide) ev12
        refine zw.e (hR.gr (by decide) ev12) ?_
        obtain ⟨v13, ev13, h⟩ := zb_some h
        have nv13 := hR.gn (by decide) ev13
        refine zw.e (hR.gr (by decide) ev13) ?_
        obtain ⟨v14, ev14, h⟩ := zb_some h
        refine zw.e (hR.zl ev14) ?_
        by_cases c : v14 = (0 : Int32)
        · have h := (if_pos c).symm.trans h
          refine zw.t c ?_
          obtain ⟨v15, ev15, h⟩ := zb_some h
          have nv15 := hR.gn (by decide) ev15
          refine zw.e (hR.gr (by decide) ev15) ?_
          obtain ⟨v16, ev16, h⟩ := zb_some h
          have nv16 := hR.gn (by decide) ev16
          refine zw.e (hR.gr (by decide) ev16) ?_
          obtain ⟨v17, ev17, h⟩ := zb_some h
          have nv17 := hR.gn (by decide) ev17
          refine zw.e (hR.gr (by decide) ev17) ?_
          obtain ⟨v18, ev18, h⟩ := zb_some h
          have nv18 := hR.an (by decide) ev18
          refine zw.e (hR.al (by decide) ev18) ?_
          obtain ⟨v19, ev19, h⟩ := zb_some h
          have nv19 := hR.gn (by decide) ev19
          refine zw.e (hR.gr (by decide) ev19) ?_
          obtain ⟨v20, ev20, h⟩ := zb_some h
          have nv20 := hR.gn (by decide) ev20
          refine zw.e (hR.gr (by decide) ev20) ?_
          obtain ⟨v21, ev21, h⟩ := zb_some h
          have nv21 := hR.an (by decide) ev21
          refine zw.e (hR.al (by decide) ev21) ?_
          obtain ⟨u22, eu22, h⟩ := zb_some h
          refine zw.e (hR.rc eu22) ?_
          obtain ⟨S23, eS23, h⟩ := zb_some h
          refine zw.c (sX0_lay hR nv15 nv18 nv21 eS23) (fun S23r hR => ?_)
          obtain ⟨v24, ev24, h⟩ := zb_some h
          have nv24 := hR.gn (by decide) ev24
          refine zw.e (hR.gr (by decide) ev24) ?_
          obtain ⟨v25, ev25, h⟩ := zb_some h
          refine zw.e (hR.gi (by decide) ev25) ?_
          cases h
          exact zw.s ⟨rfl, Nat.le_refl _, hR⟩
        · have h := (if_neg c).symm.trans h
          refine zw.f c ?_
          exact sX7_changes_49  hR h
      · have h := (if_neg c).symm.trans h
        refine zw.f c ?_
        exact sX7_changes_49  hR h
theorem sX7_changes {N : Nat} {r : Int32} {T : zS} {S : zS} {Sr : zS} {z : Nat} {x0 : Nat} {x1 : Int32} {x2 : Int32} {x3 : Int32} (hR : zR rows lm u z S Sr) (nx0 : zn rows x0) (h : fX7_changes N S x0 x1 x2 x3 = some (r, T)) : zw (rX7_changes N Sr z x0 x1 x2 x3) (tQ rows lm u z r T) := sX7_changes_0 hR nx0 h
set_option maxRecDepth 100000 in
set_option maxHeartbeats 4000000 in
theorem sX7_change_66 {N : Nat} {z : Nat} {r : Int32} {T : zS}  {S : zS} {Sr : zS} {y0 : Int32} (hR : zR rows lm u z S Sr) (h : fX7_change_66 N S y0 = some (r, T)) : zw (rX7_change_66 N Sr y0) (sQ rows lm u z r T) := by
  unfold fX7_change_66 at h
  unfold rX7_change_66
  cases h
  exact zw.s ⟨rfl, hR⟩
set_option maxRecDepth 100000 in
set_option maxHeartbeats 4000000 in
theorem sX7_change_24 {N : Nat} {z : Nat} {r : Int32} {T : zS}  {S : zS} {Sr : zS} (hR : zR rows lm u z S Sr) (h : fX7_change_24 N S = some (r, T)) : zw (rX7_change_24 N Sr) (sQ rows lm u z r T) := by
  unfold fX7_change_24 at h
  unfold rX7_change_24
  cases h
  exact zw.s ⟨rfl, hR⟩
set_option maxRecDepth 100000 in
set_option maxHeartbeats 4000000 in
theorem sX7_change_0 {N : Nat} {z : Nat} {r : Int32} {T : zS}  {S : zS} {Sr : zS} {x0 : Nat} {x1 : Int32} {x2 : Int32} (hR : zR rows lm u z S Sr) (nx0 : zn rows x0) (h : fX7_change_0 N S x0 x1 x2 = some (r, T)) : zw (rX7_change_0 N Sr x0 x1 x2) (sQ rows lm u z r T) := by
  unfold fX7_change_0 at h
  unfold rX7_change_0
  by_cases c : x1 < (0 : Int32)
  · have h := (if_pos c).symm.trans h
    refine zw.t c ?_
    exact sX7_change_24  hR h
  · have h := (if_neg c).symm.trans h
    refine zw.f c ?_
    obtain ⟨v1, ev1, h⟩ := zb_some h
    have nv1 := hR.gn (by decide) ev1
    refine zw.e (hR.gr (by decide) ev1) ?_
    obtain ⟨v2, ev2, h⟩ := zb_some h
    refine zw.e (hR.gi (by decide) ev2) ?_
    by_cases c : v2 ≤ x1
    · have h := (if_pos c).symm.trans h
      refine zw.t c ?_
      exact sX7_change_24  hR h
    · have h := (if_neg c).symm.trans h
      refine zw.f c ?_
      by_cases c : x2 < (0 : Int32)
      · have h := (if_pos c).symm.trans h
        refine zw.t c ?_
        exact sX7_change_24  hR h
      · have h := (if_neg c).symm.trans h
        refine zw.f c ?_
        by_cases c : x2 ≤ (2 : Int32)
        · have h := (if_pos c).symm.trans h
          refine zw.t c ?_
          by_cases c : x2 = (0 : Int32)
          · have h := (if_pos c).symm.trans h
            refine zw.t c ?_
            obtain ⟨v9, ev9, h⟩ := zb_some h
            have nv9 := hR.gn (by decide) ev9
            refine zw.e (hR.gr (by decide) ev9) ?_
            obtain ⟨v10, ev10, h⟩ := zb_some h
            have nv10 := hR.gn (by decide) ev10
            refine zw.e (hR.gr (by decide) ev10) ?_
            obtain ⟨v11, ev11, h⟩ := zb_some h
            refine zw.e (hR.il nv10 ev11) ?_
            cases h
            exact zw.s ⟨rfl, hR⟩
          · have h := (if_neg c).symm.trans h
            refine zw.f c ?_
            by_cases c : x2 = (1 : Int32)
            · have h := (if_pos c).symm.trans h
              refine zw.t c ?_
              obtain ⟨v6, ev6, h⟩ := zb_some h
              have nv6 := hR.gn (by decide) ev6
              refine zw.e (hR.gr (by decide) ev6) ?_
              obtain ⟨v7, ev7, h⟩ := zb_some h
              have nv7 := hR.gn (by decide) ev7
              refine zw.e (hR.gr (by decide) ev7) ?_
              obtain ⟨v8, ev8, h⟩ := zb_some h
              refine zw.e (hR.il nv7 ev8) ?_
              exact sX7_change_66  hR h
            · have h := (if_neg c).symm.trans h
              refine zw.f c ?_
              obtain ⟨v3, ev3, h⟩ := zb_some h
              have nv3 := hR.gn (by decide) ev3
              refine zw.e (hR.gr (by decide) ev3) ?_
              obtain ⟨v4, ev4, h⟩ := zb_some h
              have nv4 := hR.gn (by decide) ev4
              refine zw.e (hR.gr (by decide) ev4) ?_
              obtain ⟨v5, ev5, h⟩ := zb_some h
              refine zw.e (hR.il nv4 ev5) ?_
              exact sX7_change_66  hR h
        · have h := (if_neg c).symm.trans h
          refine zw.f c ?_
          exact sX7_change_24  hR h
theorem sX7_change {N : Nat} {z : Nat} {r : Int32} {T : zS} {S : zS} {Sr : zS} {x0 : Nat} {x1 : Int32} {x2 : Int32} (hR : zR rows lm u z S Sr) (nx0 : zn rows x0) (h : fX7_change N S x0 x1 x2 = some (r, T)) : zw (rX7_change N Sr x0 x1 x2) (sQ rows lm u z r T) := sX7_change_0 hR nx0 h
set_option maxRecDepth 100000 in
set_option maxHeartbeats 4000000 in
theorem sX7_cause_74 {N : Nat} {r : Int32} {T : zS} {Kv39 : zS × Nat × Int32 × Int32 → Option (Int32 × zS)} {K39 : zS × Nat × Nat × Int32 × Int32 → Option (Int32 × zS × Nat)} (hK39 : ∀ (S : zS) (Sr : zS) (z : Nat) (x0 : Nat) (x3 : Int32) (x4 : Int32), zR rows lm u z S Sr → zn rows x0 → Kv39 (S, x0, x3, x4) = some (r, T) → zw (K39 (Sr, z, x0, x3, x4)) (tQ rows lm u z r T)) {S : zS} {Sr : zS} {z : Nat} {x0 : Nat} {x3 : Int32} {x4 : Int32} (hR : zR rows lm u z S Sr) (nx0 : zn rows x0) (h : fX7_cause_74 N Kv39 S x0 x3 x4 = some (r, T)) : zw (rX7_cause_74 N K39 Sr z x0 x3 x4) (tQ rows lm u z r T) := by
  unfold fX7_cause_74 at h
  unfold rX7_cause_74
  refine zgeI_w (Nat.le_refl _) ?_
  exact hK39 _ _ _ _ _ _ hR nx0 h
set_option maxRecDepth 100000 in
set_option maxHeartbeats 4000000 in
theorem sX7_cause_39 {N : Nat} {r : Int32} {T : zS} {Kv39 : zS × Nat × Int32 × Int32 → Option (Int32 × zS)} {K39 : zS × Nat × Nat × Int32 × Int32 → Option (Int32 × zS × Nat)} (hK39 : ∀ (S : zS) (Sr : zS) (z : Nat) (x0 : Nat) (x3 : Int32) (x4 : Int32), zR rows lm u z S Sr → zn rows x0 → Kv39 (S, x0, x3, x4) = some (r, T) → zw (K39 (Sr, z, x0, x3, x4)) (tQ rows lm u z r T)) {S : zS} {Sr : zS} {z : Nat} {x0 : Nat} {x3 : Int32} {x4 : Int32} (hR : zR rows lm u z S Sr) (nx0 : zn rows x0) (h : fX7_cause_39 N Kv39 S x0 x3 x4 = some (r, T)) : zw (rX7_cause_39 N K39 Sr z x0 x3 x4) (tQ rows lm u z r T) := by
  unfold fX7_cause_39 at h
  unfold rX7_cause_39
  refine zgeI_w (Nat.le_refl _) ?_
  by_cases c : x3 ≤ x4
  · have h := (if_pos c).symm.trans h
    refine zw.t c ?_
    cases h
    exact zw.s ⟨rfl, Nat.le_refl _, hR⟩
  · have h := (if_neg c).symm.trans h
    refine zw.f c ?_
    obtain ⟨v1, ev1, h⟩ := zb_some h
    have nv1 := hR.gn (by decide) ev1
    refine zw.e (hR.gr (by decide) ev1) ?_
    obtain ⟨v2, ev2, h⟩ := zb_some h
    have nv2 := hR.gn (by decide) ev2
    refine zw.e (hR.gr (by decide) ev2) ?_
    obtain ⟨v3, ev3, h⟩ := zb_some h
    refine zw.e (hR.il nv2 ev3) ?_
    by_cases c : ((zush v3 x4) &&& (1 : Int32)) = (0 : Int32)
    · have h := (if_pos c).symm.trans h
      refine zw.t c ?_
      exact sX7_cause_74 hK39  hR nx0 h
    · have h := (if_neg c).symm.trans h
      refine zw.f c ?_
      obtain ⟨u4, eu4, h⟩ := zb_some h
      refine zw.e (hR.rc eu4) ?_
      obtain ⟨v6, S5, eS5, h⟩ := zb2_some h
      refine sc2 (sX7_sameThing hR nx0 eS5) (fun S5r hR => ?_)
      by_cases c : v6 = (0 : Int32)
      · have h := (if_pos c).symm.trans h
        refine zw.t c ?_
        cases h
        exact zw.s ⟨rfl, Nat.le_refl _, hR⟩
      · have h := (if_neg c).symm.trans h
        refine zw.f c ?_
        exact sX7_cause_74 hK39  hR nx0 h
set_option maxRecDepth 100000 in
set_option maxHeartbeats 4000000 in
theorem tX7_cause_39 {N : Nat} {r : Int32} {T : zS}  {S : zS} {Sr : zS} {z : Nat} {x0 : Nat} {x3 : Int32} {x4 : Int32} (hR : zR rows lm u z S Sr) (nx0 : zn rows x0) (h : lX7_cause_39 N S x0 x3 x4 = some (r, T)) : zw (rlX7_cause_39 N Sr z x0 x3 x4) (tQ rows lm u z r T) := by
  unfold lX7_cause_39 at h
  unfold rlX7_cause_39
  refine zl_sim (I := fun y y' => ∃ (S : zS) (Sr : zS) (z : Nat) (x0 : Nat) (x3 : Int32) (x4 : Int32), y = (S, x0, x3, x4) ∧ y' = (Sr, z, x0, x3, x4) ∧ zR rows lm u z S Sr ∧ zn rows x0) (Q := fun y' => (tQ rows lm u y'.2.1 r T)) ?_ N _ _ ⟨S, Sr, z, x0, x3, x4, rfl, rfl, hR, nx0⟩ h
  rintro K K' hK y y' ⟨S, Sr, z, x0, x3, x4, rfl, rfl, hR, nx0⟩ h
  exact sX7_cause_39 (fun S Sr z x0 x3 x4 hR nx0 h => hK _ _ ⟨S, Sr, z, x0, x3, x4, rfl, rfl, hR, nx0⟩ h) hR nx0 h
set_option maxRecDepth 100000 in
set_option maxHeartbeats 4000000 in
theorem sX7_cause_16 {N : Nat} {r : Int32} {T : zS}  {S : zS} {Sr : zS} {z : Nat} (hR : zR rows lm u z S Sr) (h : fX7_cause_16 N S = some (r, T)) : zw (rX7_cause_16 N Sr z) (tQ rows lm u z r T) := by
  unfold fX7_cause_16 at h
  unfold rX7_cause_16
  refine zgeI_w (Nat.le_refl _) ?_
  cases h
  exact zw.s ⟨rfl, Nat.le_refl _, hR⟩
set_option maxRecDepth 100000 in
set_option maxHeartbeats 4000000 in
theorem sX7_cause_0 {N : Nat} {r : Int32} {T : zS}  {S : zS} {Sr : zS} {z : Nat} {x0 : Nat} {x1 : Int32} {x2 : Int32} {x3 : Int32} (hR : zR rows lm u z S Sr) (nx0 : zn rows x0) (h : fX7_cause_0 N S x0 x1 x2 x3 = some (r, T)) : zw (rX7_cause_0 N Sr z x0 x1 x2 x3) (tQ rows lm u z r T) := by
  unfold fX7_cause_0 at h
  unfold rX7_cause_0
  refine zgeI_w (Nat.le_refl _) ?_
  obtain ⟨v8, S7, eS7, h⟩ := zb2_some h
  refine sc2 (sX7_areRooms hR eS7) (fun S7r hR => ?_)
  by_cases c : v8 = (0 : Int32)
  · have h := (if_pos c).symm.trans h
    refine zw.t c ?_
    exact sX7_cause_16  hR h
  · have h := (if_neg c).symm.trans h
    refine zw.f c ?_
    obtain ⟨u9, eu9, h⟩ := zb_some h
    refine zw.e (hR.rc eu9) ?_
    obtain ⟨v11, S10, eS10, h⟩ := zb2_some h
    refine sc2 (sX7_isStep hR nx0 eS10) (fun S10r hR => ?_)
    by_cases c : v11 = (0 : Int32)
    · have h := (if_pos c).symm.trans h
      refine zw.t c ?_
      exact sX7_cause_16  hR h
    · have h := (if_neg c).symm.trans h
      refine zw.f c ?_
      obtain ⟨u12, eu12, h⟩ := zb_some h
      refine zw.e (hR.rc eu12) ?_
      obtain ⟨S13, eS13, h⟩ := zb_some h
      refine sc2z (sX7_buildBoth hR nx0 eS13) (fun S13r z14 hmz14 hR => ?_)
      refine zgeI_w hmz14 ?_
      obtain ⟨u15, eu15, h⟩ := zb_some h
      refine zw.e (hR.rc eu15) ?_
      obtain ⟨v17, S16, eS16, h⟩ := zb2_some h
      refine sc2 (sX7_sameThing hR nx0 eS16) (fun S16r hR => ?_)
      by_cases c : v17 = (0 : Int32)
      · have h := (if_pos c).symm.trans h
        refine zw.t c ?_
        exact tX7_cause_39  hR nx0 h
      · have h := (if_neg c).symm.trans h
        refine zw.f c ?_
        cases h
        exact zw.s ⟨rfl, Nat.le_refl _, hR⟩
theorem sX7_cause {N : Nat} {r : Int32} {T : zS} {S : zS} {Sr : zS} {z : Nat} {x0 : Nat} {x1 : Int32} {x2 : Int32} {x3 : Int32} (hR : zR rows lm u z S Sr) (nx0 : zn rows x0) (h : fX7_cause N S x0 x1 x2 x3 = some (r, T)) : zw (rX7_cause N Sr z x0 x1 x2 x3) (tQ rows lm u z r T) := sX7_cause_0 hR nx0 h
set_option maxRecDepth 100000 in
set_option maxHeartbeats 4000000 in
theorem sX7_isFixedBy_34 {N : Nat} {r : Int32} {T : zS} {Kv3 : zS × Nat × Int32 × Int32 × Int32 × Int32 × Int32 → Option (Int32 × zS)} {K3 : zS × Nat × Nat × Int32 × Int32 × Int32 × Int32 × Int32 → Option (Int32 × zS × Nat)} (hK3 : ∀ (S : zS) (Sr : zS) (z : Nat) (x0 : Nat) (x1 : Int32) (x2 : Int32) (x3 : Int32) (x4 : Int32) (x5 : Int32), zR rows lm u z S Sr → zn rows x0 → Kv3 (S, x0, x1, x2, x3, x4, x5) = some (r, T) → zw (K3 (Sr, z, x0, x1, x2, x3, x4, x5)) (tQ rows lm u z r T)) {S : zS} {Sr : zS} {z : Nat} {x0 : Nat} {x1 : Int32} {x2 : Int32} {x3 : Int32} {x4 : Int32} {x5 : Int32} {y0 : Nat} {y1 : Int32} {y2 : Nat} {y3 : Int32} (hR : zR rows lm u z S Sr) (nx0 : zn rows x0) (ny0 : zn rows y0) (ny2 : zn rows y2) (h : fX7_isFixedBy_34 N Kv3 S x0 x1 x2 x3 x4 x5 y0 y1 y2 y3 = some (r, T)) : zw (rX7_isFixedBy_34 N K3 Sr z x0 x1 x2 x3 x4 x5 y0 y1 y2 y3) (tQ rows lm u z r T) := by
  unfold fX7_isFixedBy_34 at h
  unfold rX7_isFixedBy_34
  refine zgeI_w (Nat.le_refl _) ?_
  obtain ⟨v1, ev1, h⟩ := zb_some h
  have nv1 := hR.an (by decide) ev1
  refine zw.e (hR.al (by decide) ev1) ?_
  obtain ⟨v2, ev2, h⟩ := zb_some h
  refine zw.e (hR.il nv1 ev2) ?_
  obtain ⟨u3, eu3, h⟩ := zb_some h
  refine zw.e (hR.rc eu3) ?_
  obtain ⟨S4, eS4, h⟩ := zb_some h
  refine zw.c (sX1_turn hR ny0 eS4) (fun S4r hR => ?_)
  exact hK3 _ _ _ _ _ _ _ _ _ hR nx0 h
set_option maxRecDepth 100000 in
set_option maxHeartbeats 4000000 in
theorem sX7_isFixedBy_3 {N : Nat} {r : Int32} {T : zS} {Kv3 : zS × Nat × Int32 × Int32 × Int32 × Int32 × Int32 → Option (Int32 × zS)} {K3 : zS × Nat × Nat × Int32 × Int32 × Int32 × Int32 × Int32 → Option (Int32 × zS × Nat)} (hK3 : ∀ (S : zS) (Sr : zS) (z : Nat) (x0 : Nat) (x1 : Int32) (x2 : Int32) (x3 : Int32) (x4 : Int32) (x5 : Int32), zR rows lm u z S Sr → zn rows x0 → Kv3 (S, x0, x1, x2, x3, x4, x5) = some (r, T) → zw (K3 (Sr, z, x0, x1, x2, x3, x4, x5)) (tQ rows lm u z r T)) {S : zS} {Sr : zS} {z : Nat} {x0 : Nat} {x1 : Int32} {x2 : Int32} {x3 : Int32} {x4 : Int32} {x5 : Int32} (hR : zR rows lm u z S Sr) (nx0 : zn rows x0) (h : fX7_isFixedBy_3 N Kv3 S x0 x1 x2 x3 x4 x5 = some (r, T)) : zw (rX7_isFixedBy_3 N K3 Sr z x0 x1 x2 x3 x4 x5) (tQ rows lm u z r T) := by
  unfold fX7_isFixedBy_3 at h
  unfold rX7_isFixedBy_3
  refine zgeI_w (Nat.le_refl _) ?_
  by_cases c : (8 : Int32) ≤ x5
  · have h := (if_pos c).symm.trans h
    refine zw.t c ?_
    obtain ⟨v5, ev5, h⟩ := zb_some h
    have nv5 := hR.gn (by decide) ev5
    refine zw.e (hR.gr (by decide) ev5) ?_
    obtain ⟨v6, ev6, h⟩ := zb_some h
    have nv6 := hR.gn (by decide) ev6
    refine zw.e (hR.gr (by decide) ev6) ?_
    obtain ⟨v7, ev7, h⟩ := zb_some h
    have nv7 := hR.gn (by decide) ev7
    refine zw.e (hR.gr (by decide) ev7) ?_
    obtain ⟨v8, ev8, h⟩ := zb_some h
    refine zw.e (hR.il nv7 ev8) ?_
    obtain ⟨u9, eu9, h⟩ := zb_some h
    refine zw.e (hR.rc eu9) ?_
    obtain ⟨S10, eS10, h⟩ := zb_some h
    refine sc2z (sX1_make hR nv5 eS10) (fun S10r z11 hmz11 hR => ?_)
    refine zgeI_w hmz11 ?_
    obtain ⟨u12, eu12, h⟩ := zb_some h
    refine zw.e (hR.rc eu12) ?_
    obtain ⟨v14, S13, eS13, h⟩ := zb2_some h
    refine sc2 (sX7_sameThing hR nx0 eS13) (fun S13r hR => ?_)
    cases h
    exact zw.s ⟨rfl, Nat.le_refl _, hR⟩
  · have h := (if_neg c).symm.trans h
    refine zw.f c ?_
    obtain ⟨v15, ev15, h⟩ := zb_some h
    have nv15 := hR.gn (by decide) ev15
    refine zw.e (hR.gr (by decide) ev15) ?_
    obtain ⟨v16, ev16, h⟩ := zb_some h
    have nv16 := hR.gn (by decide) ev16
    refine zw.e (hR.gr (by decide) ev16) ?_
    by_cases c : ((zush x1 x5) &&& (1 : Int32)) = (0 : Int32)
    · have h := (if_pos c).symm.trans h
      refine zw.t c ?_
      exact sX7_isFixedBy_34 hK3  hR nx0 nv15 nv16 h
    · have h := (if_neg c).symm.trans h
      refine zw.f c ?_
      exact sX7_isFixedBy_34 hK3  hR nx0 nv15 nv16 h
set_option maxRecDepth 100000 in
set_option maxHeartbeats 4000000 in
theorem tX7_isFixedBy_3 {N : Nat} {r : Int32} {T : zS}  {S : zS} {Sr : zS} {z : Nat} {x0 : Nat} {x1 : Int32} {x2 : Int32} {x3 : Int32} {x4 : Int32} {x5 : Int32} (hR : zR rows lm u z S Sr) (nx0 : zn rows x0) (h : lX7_isFixedBy_3 N S x0 x1 x2 x3 x4 x5 = some (r, T)) : zw (rlX7_isFixedBy_3 N Sr z x0 x1 x2 x3 x4 x5) (tQ rows lm u z r T) := by
  unfold lX7_isFixedBy_3 at h
  unfold rlX7_isFixedBy_3
  refine zl_sim (I := fun y y' => ∃ (S : zS) (Sr : zS) (z : Nat) (x0 : Nat) (x1 : Int32) (x2 : Int32) (x3 : Int32) (x4 : Int32) (x5 : Int32), y = (S, x0, x1, x2, x3, x4, x5) ∧ y' = (Sr, z, x0, x1, x2, x3, x4, x5) ∧ zR rows lm u z S Sr ∧ zn rows x0) (Q := fun y' => (tQ rows lm u y'.2.1 r T)) ?_ N _ _ ⟨S, Sr, z, x0, x1, x2, x3, x4, x5, rfl, rfl, hR, nx0⟩ h
  rintro K K' hK y y' ⟨S, Sr, z, x0, x1, x2, x3, x4, x5, rfl, rfl, hR, nx0⟩ h
  exact sX7_isFixedBy_3 (fun S Sr z x0 x1 x2 x3 x4 x5 hR nx0 h => hK _ _ ⟨S, Sr, z, x0, x1, x2, x3, x4, x5, rfl, rfl, hR, nx0⟩ h) hR nx0 h
set_option maxRecDepth 100000 in
set_option maxHeartbeats 4000000 in
theorem sX7_isFixedBy_0 {N : Nat} {r : Int32} {T : zS}  {S : zS} {Sr : zS} {z : Nat} {x0 : Nat} {x1 : Int32} {x2 : Int32} {x3 : Int32} {x4 : Int32} (hR : zR rows lm u z S Sr) (nx0 : zn rows x0) (h : fX7_isFixedBy_0 N S x0 x1 x2 x3 x4 = some (r, T)) : zw (rX7_isFixedBy_0 N Sr z x0 x1 x2 x3 x4) (tQ rows lm u z r T) := by
  unfold fX7_isFixedBy_0 at h
  unfold rX7_isFixedBy_0
  refine zgeI_w (Nat.le_refl _) ?_
  exact tX7_isFixedBy_3  hR nx0 h
theorem sX7_isFixedBy {N : Nat} {r : Int32} {T : zS} {S : zS} {Sr : zS} {z : Nat} {x0 : Nat} {x1 : Int32} {x2 : Int32} {x3 : Int32} {x4 : Int32} (hR : zR rows lm u z S Sr) (nx0 : zn rows x0) (h : fX7_isFixedBy N S x0 x1 x2 x3 x4 = some (r, T)) : zw (rX7_isFixedBy N Sr z x0 x1 x2 x3 x4) (tQ rows lm u z r T) := sX7_isFixedBy_0 hR nx0 h
set_option maxRecDepth 100000 in
set_option maxHeartbeats 4000000 in
theorem sX7_isPart_21 {N : Nat} {z : Nat} {r : Int32} {T : zS}  {S : zS} {Sr : zS} {y0 : Int32} (hR : zR rows lm u z S Sr) (h : fX7_isPart_21 N S y0 = some (r, T)) : zw (rX7_isPart_21 N Sr y0) (sQ rows lm u z r T) := by
  unfold fX7_isPart_21 at h
  unfold rX7_isPart_21
  cases h
  exact zw.s ⟨rfl, hR⟩
set_option maxRecDepth 100000 in
set_option maxHeartbeats 4000000 in
theorem sX7_isPart_20 {N : Nat} {z : Nat} {r : Int32} {T : zS}  {S : zS} {Sr : zS} (hR : zR rows lm u z S Sr) (h : fX7_isPart_20 N S = some (r, T)) : zw (rX7_isPart_20 N Sr) (sQ rows lm u z r T) := by
  unfold fX7_isPart_20 at h
  unfold rX7_isPart_20
  exact sX7_isPart_21  hR h
set_option maxRecDepth 100000 in
set_option maxHeartbeats 4000000 in
theorem sX7_isPart_0 {N : Nat} {z : Nat} {r : Int32} {T : zS}  {S : zS} {Sr : zS} {x0 : Int32} {x1 : Int32} {x2 : Int32} (hR : zR rows lm u z S Sr) (h : fX7_isPart_0 N S x0 x1 x2 = some (r, T)) : zw (rX7_isPart_0 N Sr x0 x1 x2) (sQ rows lm u z r T) := by
  unfold fX7_isPart_0 at h
  unfold rX7_isPart_0
  by_cases c : (x0 &&& (x1 ^^^ (-1 : Int32))) = (0 : Int32)
  · have h := (if_pos c).symm.trans h
    refine zw.t c ?_
    obtain ⟨v2, S1, eS1, h⟩ := zb2_some h
    refine sc2 (sJ6_bitCount_0f7a4 hR eS1) (fun S1r hR => ?_)
    by_cases c : v2 = x2
    · have h := (if_pos c).symm.trans h
      refine zw.t c ?_
      exact sX7_isPart_21  hR h
    · have h := (if_neg c).symm.trans h
      refine zw.f c ?_
      exact sX7_isPart_20  hR h
  · have h := (if_neg c).symm.trans h
    refine zw.f c ?_
    exact sX7_isPart_20  hR h
theorem sX7_isPart {N : Nat} {z : Nat} {r : Int32} {T : zS} {S : zS} {Sr : zS} {x0 : Int32} {x1 : Int32} {x2 : Int32} (hR : zR rows lm u z S Sr) (h : fX7_isPart N S x0 x1 x2 = some (r, T)) : zw (rX7_isPart N Sr x0 x1 x2) (sQ rows lm u z r T) := sX7_isPart_0 hR h
set_option maxRecDepth 100000 in
set_option maxHeartbeats 4000000 in
theorem sX7_fix_91 {N : Nat} {r : Int32} {T : zS} {Kv46 : zS × Nat × Int32 × Int32 × Int32 × Int32 × Int32 → Option (Int32 × zS)} {K46 : zS × Nat × Nat × Int32 × Int32 × Int32 × Int32 × Int32 → Option (Int32 × zS × Nat)} (hK46 : ∀ (S : zS) (Sr : zS) (z : Nat) (x0 : Nat) (x1 : Int32) (x2 : Int32) (x3 : Int32) (x4 : Int32) (x5 : Int32), zR rows lm u z S Sr → zn rows x0 → Kv46 (S, x0, x1, x2, x3, x4, x5) = some (r, T) → zw (K46 (Sr, z, x0, x1, x2, x3, x4, x5)) (tQ rows lm u z r T)) {Kv56 : zS × Nat × Int32 × Int32 × Int32 × Int32 × Int32 × Int32 → Option (Int32 × zS)} {K56 : zS × Nat × Nat × Int32 × Int32 × Int32 × Int32 × Int32 × Int32 → Option (Int32 × zS × Nat)} (hK56 : ∀ (S : zS) (Sr : zS) (z : Nat) (x0 : Nat) (x1 : Int32) (x2 : Int32) (x3 : Int32) (x4 : Int32) (x5 : Int32) (x6 : Int32), zR rows lm u z S Sr → zn rows x0 → Kv56 (S, x0, x1, x2, x3, x4, x5, x6) = some (r, T) → zw (K56 (Sr, z, x0, x1, x2, x3, x4, x5, x6)) (tQ rows lm u z r T)) {S : zS} {Sr : zS} {z : Nat} {x0 : Nat} {x1 : Int32} {x2 : Int32} {x3 : Int32} {x4 : Int32} {x5 : Int32} {x6 : Int32} (hR : zR rows lm u z S Sr) (nx0 : zn rows x0) (h : fX7_fix_91 N Kv46 Kv56 S x0 x1 x2 x3 x4 x5 x6 = some (r, T)) : zw (rX7_fix_91 N K46 K56 Sr z x0 x1 x2 x3 x4 x5 x6) (tQ rows lm u z r T) := by
  unfold fX7_fix_91 at h
  unfold rX7_fix_91
  refine zgeI_w (Nat.le_refl _) ?_
  exact hK56 _ _ _ _ _ _ _ _ _ _ hR nx0 h
set_option maxRecDepth 100000 in
set_option maxHeartbeats 4000000 in
theorem sX7_fix_56 {N : Nat} {r : Int32} {T : zS} {Kv46 : zS × Nat × Int32 × Int32 × Int32 × Int32 × Int32 → Option (Int32 × zS)} {K46 : zS × Nat × Nat × Int32 × Int32 × Int32 × Int32 × Int32 → Option (Int32 × zS × Nat)} (hK46 : ∀ (S : zS) (Sr : zS) (z : Nat) (x0 : Nat) (x1 : Int32) (x2 : Int32) (x3 : Int32) (x4 : Int32) (x5 : Int32), zR rows lm u z S Sr → zn rows x0 → Kv46 (S, x0, x1, x2, x3, x4, x5) = some (r, T) → zw (K46 (Sr, z, x0, x1, x2, x3, x4, x5)) (tQ rows lm u z r T)) {Kv56 : zS × Nat × Int32 × Int32 × Int32 × Int32 × Int32 × Int32 → Option (Int32 × zS)} {K56 : zS × Nat × Nat × Int32 × Int32 × Int32 × Int32 × Int32 × Int32 → Option (Int32 × zS × Nat)} (hK56 : ∀ (S : zS) (Sr : zS) (z : Nat) (x0 : Nat) (x1 : Int32) (x2 : Int32) (x3 : Int32) (x4 : Int32) (x5 : Int32) (x6 : Int32), zR rows lm u z S Sr → zn rows x0 → Kv56 (S, x0, x1, x2, x3, x4, x5, x6) = some (r, T) → zw (K56 (Sr, z, x0, x1, x2, x3, x4, x5, x6)) (tQ rows lm u z r T)) {S : zS} {Sr : zS} {z : Nat} {x0 : Nat} {x1 : Int32} {x2 : Int32} {x3 : Int32} {x4 : Int32} {x5 : Int32} {x6 : Int32} (hR : zR rows lm u z S Sr) (nx0 : zn rows x0) (h : fX7_fix_56 N Kv46 Kv56 S x0 x1 x2 x3 x4 x5 x6 = some (r, T)) : zw (rX7_fix_56 N K46 K56 Sr z x0 x1 x2 x3 x4 x5 x6) (tQ rows lm u z r T) := by
  unfold fX7_fix_56 at h
  unfold rX7_fix_56
  refine zgeI_w (Nat.le_refl _) ?_
  by_cases c : (255 : Int32) < x6
  · have h := (if_pos c).symm.trans h
    refine zw.t c ?_
    exact hK46 _ _ _ _ _ _ _ _ _ hR nx0 h
  · have h := (if_neg c).symm.trans h
    refine zw.f c ?_
    obtain ⟨v2, S1, eS1, h⟩ := zb2_some h
    refine sc2 (sX7_isPart hR eS1) (fun S1r hR => ?_)
    by_cases c : v2 = (0 : Int32)
    · have h := (if_pos c).symm.trans h
      refine zw.t c ?_
      exact sX7_fix_91 hK46 hK56  hR nx0 h
    · have h := (if_neg c).symm.trans h
      refine zw.f c ?_
      obtain ⟨u3, eu3, h⟩ := zb_some h
      refine zw.e (hR.rc eu3) ?_
      obtain ⟨v6, S4, eS4, h⟩ := zb2_some h
      refine sc3 (sX7_isFixedBy hR nx0 eS4) (fun S4r z5 hmz5 hR => ?_)
      refine zgeI_w hmz5 ?_
      by_cases c : v6 = (0 : Int32)
      · have h := (if_pos c).symm.trans h
        refine zw.t c ?_
        exact sX7_fix_91 hK46 hK56  hR nx0 h
      · have h := (if_neg c).symm.trans h
        refine zw.f c ?_
        cases h
        exact zw.s ⟨rfl, Nat.le_refl _, hR⟩
set_option maxRecDepth 100000 in
set_option maxHeartbeats 4000000 in
theorem tX7_fix_56 {N : Nat} {r : Int32} {T : zS} {Kv46 : zS × Nat × Int32 × Int32 × Int32 × Int32 × Int32 → Option (Int32 × zS)} {K46 : zS × Nat × Nat × Int32 × Int32 × Int32 × Int32 × Int32 → Option (Int32 × zS × Nat)} (hK46 : ∀ (S : zS) (Sr : zS) (z : Nat) (x0 : Nat) (x1 : Int32) (x2 : Int32) (x3 : Int32) (x4 : Int32) (x5 : Int32), zR rows lm u z S Sr → zn rows x0 → Kv46 (S, x0, x1, x2, x3, x4, x5) = some (r, T) → zw (K46 (Sr, z, x0, x1, x2, x3, x4, x5)) (tQ rows lm u z r T)) {S : zS} {Sr : zS} {z : Nat} {x0 : Nat} {x1 : Int32} {x2 : Int32} {x3 : Int32} {x4 : Int32} {x5 : Int32} {x6 : Int32} (hR : zR rows lm u z S Sr) (nx0 : zn rows x0) (h : lX7_fix_56 N Kv46 S x0 x1 x2 x3 x4 x5 x6 = some (r, T)) : zw (rlX7_fix_56 N K46 Sr z x0 x1 x2 x3 x4 x5 x6) (tQ rows lm u z r T) := by
  unfold lX7_fix_56 at h
  unfold rlX7_fix_56
  refine zl_sim (I := fun y y' => ∃ (S : zS) (Sr : zS) (z : Nat) (x0 : Nat) (x1 : Int32) (x2 : Int32) (x3 : Int32) (x4 : Int32) (x5 : Int32) (x6 : Int32), y = (S, x0, x1, x2, x3, x4, x5, x6) ∧ y' = (Sr, z, x0, x1, x2, x3, x4, x5, x6) ∧ zR rows lm u z S Sr ∧ zn rows x0) (Q := fun y' => (tQ rows lm u y'.2.1 r T)) ?_ N _ _ ⟨S, Sr, z, x0, x1, x2, x3, x4, x5, x6, rfl, rfl, hR, nx0⟩ h
  rintro K K' hK y y' ⟨S, Sr, z, x0, x1, x2, x3, x4, x5, x6, rfl, rfl, hR, nx0⟩ h
  exact sX7_fix_56 hK46 (fun S Sr z x0 x1 x2 x3 x4 x5 x6 hR nx0 h => hK _ _ ⟨S, Sr, z, x0, x1, x2, x3, x4, x5, x6, rfl, rfl, hR, nx0⟩ h) hR nx0 h
set_option maxRecDepth 100000 in
set_option maxHeartbeats 4000000 in
theorem sX7_fix_46 {N : Nat} {r : Int32} {T : zS} {Kv46 : zS × Nat × Int32 × Int32 × Int32 × Int32 × Int32 → Option (Int32 × zS)} {K46 : zS × Nat × Nat × Int32 × Int32 × Int32 × Int32 × Int32 → Option (Int32 × zS × Nat)} (hK46 : ∀ (S : zS) (Sr : zS) (z : Nat) (x0 : Nat) (x1 : Int32) (x2 : Int32) (x3 : Int32) (x4 : Int32) (x5 : Int32), zR rows lm u z S Sr → zn rows x0 → Kv46 (S, x0, x1, x2, x3, x4, x5) = some (r, T) → zw (K46 (Sr, z, x0, x1, x2, x3, x4, x5)) (tQ rows lm u z r T)) {S : zS} {Sr : zS} {z : Nat} {x0 : Nat} {x1 : Int32} {x2 : Int32} {x3 : Int32} {x4 : Int32} {x5 : Int32} (hR : zR rows lm u z S Sr) (nx0 : zn rows x0) (h : fX7_fix_46 N Kv46 S x0 x1 x2 x3 x4 x5 = some (r, T)) : zw (rX7_fix_46 N K46 Sr z x0 x1 x2 x3 x4 x5) (tQ rows lm u z r T) := by
  unfold fX7_fix_46 at h
  unfold rX7_fix_46
  refine zgeI_w (Nat.le_refl _) ?_
  by_cases c : (8 : Int32) < x5
  · have h := (if_pos c).symm.trans h
    refine zw.t c ?_
    cases h
    exact zw.s ⟨rfl, Nat.le_refl _, hR⟩
  · have h := (if_neg c).symm.trans h
    refine zw.f c ?_
    exact tX7_fix_56 hK46  hR nx0 h
set_option maxRecDepth 100000 in
set_option maxHeartbeats 4000000 in
theorem tX7_fix_46 {N : Nat} {r : Int32} {T : zS}  {S : zS} {Sr : zS} {z : Nat} {x0 : Nat} {x1 : Int32} {x2 : Int32} {x3 : Int32} {x4 : Int32} {x5 : Int32} (hR : zR rows lm u z S Sr) (nx0 : zn rows x0) (h : lX7_fix_46 N S x0 x1 x2 x3 x4 x5 = some (r, T)) : zw (rlX7_fix_46 N Sr z x0 x1 x2 x3 x4 x5) (tQ rows lm u z r T) := by
  unfold lX7_fix_46 at h
  unfold rlX7_fix_46
  refine zl_sim (I := fun y y' => ∃ (S : zS) (Sr : zS) (z : Nat) (x0 : Nat) (x1 : Int32) (x2 : Int32) (x3 : Int32) (x4 : Int32) (x5 : Int32), y = (S, x0, x1, x2, x3, x4, x5) ∧ y' = (Sr, z, x0, x1, x2, x3, x4, x5) ∧ zR rows lm u z S Sr ∧ zn rows x0) (Q := fun y' => (tQ rows lm u y'.2.1 r T)) ?_ N _ _ ⟨S, Sr, z, x0, x1, x2, x3, x4, x5, rfl, rfl, hR, nx0⟩ h
  rintro K K' hK y y' ⟨S, Sr, z, x0, x1, x2, x3, x4, x5, rfl, rfl, hR, nx0⟩ h
  exact sX7_fix_46 (fun S Sr z x0 x1 x2 x3 x4 x5 hR nx0 h => hK _ _ ⟨S, Sr, z, x0, x1, x2, x3, x4, x5, rfl, rfl, hR, nx0⟩ h) hR nx0 h
set_option maxRecDepth 100000 in
set_option maxHeartbeats 4000000 in
theorem sX7_fix_16 {N : Nat} {r : Int32} {T : zS}  {S : zS} {Sr : zS} {z : Nat} (hR : zR rows lm u z S Sr) (h : fX7_fix_16 N S = some (r, T)) : zw (rX7_fix_16 N Sr z) (tQ rows lm u z r T) := by
  unfold fX7_fix_16 at h
  unfold rX7_fix_16
  refine zgeI_w (Nat.le_refl _) ?_
  cases h
  exact zw.s ⟨rfl, Nat.le_refl _, hR⟩
set_option maxRecDepth 100000 in
set_option maxHeartbeats 4000000 in
theorem sX7_fix_0 {N : Nat} {r : Int32} {T : zS}  {S : zS} {Sr : zS} {z : Nat} {x0 : Nat} {x1 : Int32} {x2 : Int32} {x3 : Int32} (hR : zR rows lm u z S Sr) (nx0 : zn rows x0) (h : fX7_fix_0 N S x0 x1 x2 x3 = some (r, T)) : zw (rX7_fix_0 N Sr z x0 x1 x2 x3) (tQ rows lm u z r T) := by
  unfold fX7_fix_0 at h
  unfold rX7_fix_0
  refine zgeI_w (Nat.le_refl _) ?_
  obtain ⟨v8, S7, eS7, h⟩ := zb2_some h
  refine sc2 (sX7_areRooms hR eS7) (fun S7r hR => ?_)
  by_cases c : v8 = (0 : Int32)
  · have h := (if_pos c).symm.trans h
    refine zw.t c ?_
    exact sX7_fix_16  hR h
  · have h := (if_neg c).symm.trans h
    refine zw.f c ?_
    obtain ⟨u9, eu9, h⟩ := zb_some h
    refine zw.e (hR.rc eu9) ?_
    obtain ⟨v11, S10, eS10, h⟩ := zb2_some h
    refine sc2 (sX7_isStep hR nx0 eS10) (fun S10r hR => ?_)
    by_cases c : v11 = (0 : Int32)
    · have h := (if_pos c).symm.trans h
      refine zw.t c ?_
      exact sX7_fix_16  hR h
    · have h := (if_neg c).symm.trans h
      refine zw.f c ?_
      obtain ⟨u12, eu12, h⟩ := zb_some h
      refine zw.e (hR.rc eu12) ?_
      obtain ⟨S13, eS13, h⟩ := zb_some h
      refine sc2z (sX7_buildBoth hR nx0 eS13) (fun S13r z14 hmz14 hR => ?_)
      refine zgeI_w hmz14 ?_
      obtain ⟨v15, ev15, h⟩ := zb_some h
      have nv15 := hR.gn (by decide) ev15
      refine zw.e (hR.gr (by decide) ev15) ?_
      obtain ⟨v16, ev16, h⟩ := zb_some h
      have nv16 := hR.gn (by decide) ev16
      refine zw.e (hR.gr (by decide) ev16) ?_
      obtain ⟨v17, ev17, h⟩ := zb_some h
      refine zw.e (hR.il nv16 ev17) ?_
      obtain ⟨u18, eu18, h⟩ := zb_some h
      refine zw.e (hR.rc eu18) ?_
      obtain ⟨v20, S19, eS19, h⟩ := zb2_some h
      refine sc2 (sX7_unlikeWords hR nx0 eS19) (fun S19r hR => ?_)
      exact tX7_fix_46  hR nx0 h
theorem sX7_fix {N : Nat} {r : Int32} {T : zS} {S : zS} {Sr : zS} {z : Nat} {x0 : Nat} {x1 : Int32} {x2 : Int32} {x3 : Int32} (hR : zR rows lm u z S Sr) (nx0 : zn rows x0) (h : fX7_fix N S x0 x1 x2 x3 = some (r, T)) : zw (rX7_fix N Sr z x0 x1 x2 x3) (tQ rows lm u z r T) := sX7_fix_0 hR nx0 h
set_option maxRecDepth 100000 in
set_option maxHeartbeats 4000000 in
theorem sX7_firstUnlike_49 {N : Nat} {r : Int32} {T : zS} {Kv49 : zS × Nat × Int32 × Int32 × Int32 × Int32 → Option (Int32 × zS)} {K49 : zS × Nat × Nat × Int32 × Int32 × Int32 × Int32 → Option (Int32 × zS × Nat)} (hK49 : ∀ (S : zS) (Sr : zS) (z : Nat) (x0 : Nat) (x2 : Int32) (x3 : Int32) (x4 : Int32) (x5 : Int32), zR rows lm u z S Sr → zn rows x0 → Kv49 (S, x0, x2, x3, x4, x5) = some (r, T) → zw (K49 (Sr, z, x0, x2, x3, x4, x5)) (tQ rows lm u z r T)) {S : zS} {Sr : zS} {z : Nat} {x0 : Nat} {x2 : Int32} {x3 : Int32} {x4 : Int32} {x5 : Int32} (hR : zR rows lm u z S Sr) (nx0 : zn rows x0) (h : fX7_firstUnlike_49 N Kv49 S x0 x2 x3 x4 x5 = some (r, T)) : zw (rX7_firstUnlike_49 N K49 Sr z x0 x2 x3 x4 x5) (tQ rows lm u z r T) := by
  unfold fX7_firstUnlike_49 at h
  unfold rX7_firstUnlike_49
  refine zgeI_w (Nat.le_refl _) ?_
  by_cases c : x4 < x5
  · have h := (if_pos c).symm.trans h
    refine zw.t c ?_
    cases h
    exact zw.s ⟨rfl, Nat.le_refl _, hR⟩
  · have h := (if_neg c).symm.trans h
    refine zw.f c ?_
    obtain ⟨v1, ev1, h⟩ := zb_some h
    have nv1 := hR.gn (by decide) ev1
    refine zw.e (hR.gr (by decide) ev1) ?_
    obtain ⟨u2, eu2, h⟩ := zb_some h
    refine zw.e (hR.rc eu2) ?_
    obtain ⟨S3, eS3, h⟩ := zb_some h
    refine zw.c (sX1_turn hR nv1 eS3) (fun S3r hR => ?_)
    obtain ⟨v4, ev4, h⟩ := zb_some h
    have nv4 := hR.gn (by decide) ev4
    refine zw.e (hR.gr (by decide) ev4) ?_
    obtain ⟨v5, ev5, h⟩ := zb_some h
    have nv5 := hR.gn (by decide) ev5
    refine zw.e (hR.gr (by decide) ev5) ?_
    obtain ⟨v6, ev6, h⟩ := zb_some h
    have nv6 := hR.gn (by decide) ev6
    refine zw.e (hR.gr (by decide) ev6) ?_
    obtain ⟨v7, ev7, h⟩ := zb_some h
    refine zw.e (hR.il nv6 ev7) ?_
    obtain ⟨u8, eu8, h⟩ := zb_some h
    refine zw.e (hR.rc eu8) ?_
    obtain ⟨S9, eS9, h⟩ := zb_some h
    refine sc2z (sX1_make hR nv4 eS9) (fun S9r z10 hmz10 hR => ?_)
    refine zgeI_w hmz10 ?_
    obtain ⟨u11, eu11, h⟩ := zb_some h
    refine zw.e (hR.rc eu11) ?_
    obtain ⟨v13, S12, eS12, h⟩ := zb2_some h
    refine sc2 (sX7_sameThing hR nx0 eS12) (fun S12r hR => ?_)
    by_cases c : v13 = (0 : Int32)
    · have h := (if_pos c).symm.trans h
      refine zw.t c ?_
      cases h
      exact zw.s ⟨rfl, Nat.le_refl _, hR⟩
    · have h := (if_neg c).symm.trans h
      refine zw.f c ?_
      exact hK49 _ _ _ _ _ _ _ _ hR nx0 h
set_option maxRecDepth 100000 in
set_option maxHeartbeats 4000000 in
theorem tX7_firstUnlike_49 {N : Nat} {r : Int32} {T : zS}  {S : zS} {Sr : zS} {z : Nat} {x0 : Nat} {x2 : Int32} {x3 : Int32} {x4 : Int32} {x5 : Int32} (hR : zR rows lm u z S Sr) (nx0 : zn rows x0) (h : lX7_firstUnlike_49 N S x0 x2 x3 x4 x5 = some (r, T)) : zw (rlX7_firstUnlike_49 N Sr z x0 x2 x3 x4 x5) (tQ rows lm u z r T) := by
  unfold lX7_firstUnlike_49 at h
  unfold rlX7_firstUnlike_49
  refine zl_sim (I := fun y y' => ∃ (S : zS) (Sr : zS) (z : Nat) (x0 : Nat) (x2 : Int32) (x3 : Int32) (x4 : Int32) (x5 : Int32), y = (S, x0, x2, x3, x4, x5) ∧ y' = (Sr, z, x0, x2, x3, x4, x5) ∧ zR rows lm u z S Sr ∧ zn rows x0) (Q := fun y' => (tQ rows lm u y'.2.1 r T)) ?_ N _ _ ⟨S, Sr, z, x0, x2, x3, x4, x5, rfl, rfl, hR, nx0⟩ h
  rintro K K' hK y y' ⟨S, Sr, z, x0, x2, x3, x4, x5, rfl, rfl, hR, nx0⟩ h
  exact sX7_firstUnlike_49 (fun S Sr z x0 x2 x3 x4 x5 hR nx0 h => hK _ _ ⟨S, Sr, z, x0, x2, x3, x4, x5, rfl, rfl, hR, nx0⟩ h) hR nx0 h
set_option maxRecDepth 100000 in
set_option maxHeartbeats 4000000 in
theorem sX7_firstUnlike_0 {N : Nat} {r : Int32} {T : zS}  {S : zS} {Sr : zS} {z : Nat} {x0 : Nat} {x1 : Int32} {x2 : Int32} {x3 : Int32} {x4 : Int32} (hR : zR rows lm u z S Sr) (nx0 : zn rows x0) (h : fX7_firstUnlike_0 N S x0 x1 x2 x3 x4 = some (r, T)) : zw (rX7_firstUnlike_0 N Sr z x0 x1 x2 x3 x4) (tQ rows lm u z r T) := by
  unfold fX7_firstUnlike_0 at h
  unfold rX7_firstUnlike_0
  refine zgeI_w (Nat.le_refl _) ?_
  obtain ⟨v14, ev14, h⟩ := zb_some h
  have nv14 := hR.gn (by decide) ev14
  refine zw.e (hR.gr (by decide) ev14) ?_
  obtain ⟨v15, ev15, h⟩ := zb_some h
  have nv15 := hR.gn (by decide) ev15
  refine zw.e (hR.gr (by decide) ev15) ?_
  obtain ⟨v16, ev16, h⟩ := zb_some h
  refine zw.e (hR.il nv15 ev16) ?_
  by_cases c : ((zush v16 x3) &&& (1 : Int32)) = (0 : Int32)
  · have h := (if_pos c).symm.trans h
    refine zw.t c ?_
    cases h
    exact zw.s ⟨rfl, Nat.le_refl _, hR⟩
  · have h := (if_neg c).symm.trans h
    refine zw.f c ?_
    obtain ⟨v17, ev17, h⟩ := zb_some h
    have nv17 := hR.gn (by decide) ev17
    refine zw.e (hR.gr (by decide) ev17) ?_
    obtain ⟨v18, ev18, h⟩ := zb_some h
    have nv18 := hR.gn (by decide) ev18
    refine zw.e (hR.gr (by decide) ev18) ?_
    obtain ⟨v19, ev19, h⟩ := zb_some h
    have nv19 := hR.an (by decide) ev19
    refine zw.e (hR.al (by decide) ev19) ?_
    obtain ⟨u20, eu20, h⟩ := zb_some h
    refine zw.e (hR.rc eu20) ?_
    obtain ⟨S21, eS21, h⟩ := zb_some h
    refine sc2z (sX1_makeIn hR nv17 nv19 eS21) (fun S21r z22 hmz22 hR => ?_)
    refine zgeI_w hmz22 ?_
    obtain ⟨v23, ev23, h⟩ := zb_some h
    have nv23 := hR.gn (by decide) ev23
    refine zw.e (hR.gr (by decide) ev23) ?_
    obtain ⟨v24, ev24, h⟩ := zb_some h
    have nv24 := hR.gn (by decide) ev24
    refine zw.e (hR.gr (by decide) ev24) ?_
    obtain ⟨v25, ev25, h⟩ := zb_some h
    have nv25 := hR.an (by decide) ev25
    refine zw.e (hR.al (by decide) ev25) ?_
    obtain ⟨u26, eu26, h⟩ := zb_some h
    refine zw.e (hR.rc eu26) ?_
    obtain ⟨S27, eS27, h⟩ := zb_some h
    refine sc2z (sX1_makeIn hR nv23 nv25 eS27) (fun S27r z28 hmz28 hR => ?_)
    refine zgeI_w hmz28 ?_
    exact tX7_firstUnlike_49  hR nx0 h
theorem sX7_firstUnlike {N : Nat} {r : Int32} {T : zS} {S : zS} {Sr : zS} {z : Nat} {x0 : Nat} {x1 : Int32} {x2 : Int32} {x3 : Int32} {x4 : Int32} (hR : zR rows lm u z S Sr) (nx0 : zn rows x0) (h : fX7_firstUnlike N S x0 x1 x2 x3 x4 = some (r, T)) : zw (rX7_firstUnlike N Sr z x0 x1 x2 x3 x4) (tQ rows lm u z r T) := sX7_firstUnlike_0 hR nx0 h
set_option maxRecDepth 100000 in
set_option maxHeartbeats 4000000 in
theorem sX7_stable_55 {N : Nat} {r : Int32} {T : zS}  {S : zS} {Sr : zS} {z : Nat} {y0 : Int32} (hR : zR rows lm u z S Sr) (h : fX7_stable_55 N S y0 = some (r, T)) : zw (rX7_stable_55 N Sr z y0) (tQ rows lm u z r T) := by
  unfold fX7_stable_55 at h
  unfold rX7_stable_55
  refine zgeI_w (Nat.le_refl _) ?_
  cases h
  exact zw.s ⟨rfl, Nat.le_refl _, hR⟩
set_option maxRecDepth 100000 in
set_option maxHeartbeats 4000000 in
theorem sX7_stable_35 {N : Nat} {r : Int32} {T : zS}  {S : zS} {Sr : zS} {z : Nat} (hR : zR rows lm u z S Sr) (h : fX7_stable_35 N S = some (r, T)) : zw (rX7_stable_35 N Sr z) (tQ rows lm u z r T) := by
  unfold fX7_stable_35 at h
  unfold rX7_stable_35
  refine zgeI_w (Nat.le_refl _) ?_
  cases h
  exact zw.s ⟨rfl, Nat.le_refl _, hR⟩
set_option maxRecDepth 100000 in
set_option maxHeartbeats 4000000 in
theorem sX7_stable_0 {N : Nat} {r : Int32} {T : zS}  {S : zS} {Sr : zS} {z : Nat} {x0 : Nat} {x1 : Int32} {x2 : Int32} {x3 : Int32} {x4 : Int32} (hR : zR rows lm u z S Sr) (nx0 : zn rows x0) (h : fX7_stable_0 N S x0 x1 x2 x3 x4 = some (r, T)) : zw (rX7_stable_0 N Sr z x0 x1 x2 x3 x4) (tQ rows lm u z r T) := by
  unfold fX7_stable_0 at h
  unfold rX7_stable_0
  refine zgeI_w (Nat.le_refl _) ?_
  obtain ⟨v2, S1, eS1, h⟩ := zb2_some h
  refine sc2 (sX7_isRoom hR eS1) (fun S1r hR => ?_)
  by_cases c : v2 = (0 : Int32)
  · have h := (if_pos c).symm.trans h
    refine zw.t c ?_
    exact sX7_stable_35  hR h
  · have h := (if_neg c).symm.trans h
    refine zw.f c ?_
    obtain ⟨u3, eu3, h⟩ := zb_some h
    refine zw.e (hR.rc eu3) ?_
    obtain ⟨v5, S4, eS4, h⟩ := zb2_some h
    refine sc2 (sX7_isStep hR nx0 eS4) (fun S4r hR => ?_)
    by_cases c : v5 = (0 : Int32)
    · have h := (if_pos c).symm.trans h
      refine zw.t c ?_
      exact sX7_stable_35  hR h
    · have h := (if_neg c).symm.trans h
      refine zw.f c ?_
      obtain ⟨v7, S6, eS6, h⟩ := zb2_some h
      refine sc2 (sX7_isWord hR eS6) (fun S6r hR => ?_)
      by_cases c : v7 = (0 : Int32)
      · have h := (if_pos c).symm.trans h
        refine zw.t c ?_
        exact sX7_stable_35  hR h
      · have h := (if_neg c).symm.trans h
        refine zw.f c ?_
        by_cases c : x4 < (0 : Int32)
        · have h := (if_pos c).symm.trans h
          refine zw.t c ?_
          exact sX7_stable_35  hR h
        · have h := (if_neg c).symm.trans h
          refine zw.f c ?_
          by_cases c : x4 ≤ (255 : Int32)
          · have h := (if_pos c).symm.trans h
            refine zw.t c ?_
            obtain ⟨u8, eu8, h⟩ := zb_some h
            refine zw.e (hR.rc eu8) ?_
            obtain ⟨v11, S9, eS9, h⟩ := zb2_some h
            refine sc3 (sX7_firstUnlike hR nx0 eS9) (fun S9r z10 hmz10 hR => ?_)
            refine zgeI_w hmz10 ?_
            by_cases c : v11 = (-1 : Int32)
            · have h := (if_pos c).symm.trans h
              refine zw.t c ?_
              exact sX7_stable_55  hR h
            · have h := (if_neg c).symm.trans h
              refine zw.f c ?_
              exact sX7_stable_55  hR h
          · have h := (if_neg c).symm.trans h
            refine zw.f c ?_
            exact sX7_stable_35  hR h
theorem sX7_stable {N : Nat} {r : Int32} {T : zS} {S : zS} {Sr : zS} {z : Nat} {x0 : Nat} {x1 : Int32} {x2 : Int32} {x3 : Int32} {x4 : Int32} (hR : zR rows lm u z S Sr) (nx0 : zn rows x0) (h : fX7_stable N S x0 x1 x2 x3 x4 = some (r, T)) : zw (rX7_stable N Sr z x0 x1 x2 x3 x4) (tQ rows lm u z r T) := sX7_stable_0 hR nx0 h
set_option maxRecDepth 100000 in
set_option maxHeartbeats 4000000 in
theorem sX7_breaks_49 {N : Nat} {r : Int32} {T : zS}  {S : zS} {Sr : zS} {z : Nat} {y0 : Int32} (hR : zR rows lm u z S Sr) (h : fX7_breaks_49 N S y0 = some (r, T)) : zw (rX7_breaks_49 N Sr z y0) (tQ rows lm u z r T) := by
  unfold fX7_breaks_49 at h
  unfold rX7_breaks_49
  refine zgeI_w (Nat.le_refl _) ?_
  cases h
  exact zw.s ⟨rfl, Nat.le_refl _, hR⟩
set_option maxRecDepth 100000 in
set_option maxHeartbeats 4000000 in
theorem sX7_breaks_22 {N : Nat} {r : Int32} {T : zS}  {S : zS} {Sr : zS} {z : Nat} (hR : zR rows lm u z S Sr) (h : fX7_breaks_22 N S = some (r, T)) : zw (rX7_breaks_22 N Sr z) (tQ rows lm u z r T) := by
  unfold fX7_breaks_22 at h
  unfold rX7_breaks_22
  refine zgeI_w (Nat.le_refl _) ?_
  cases h
  exact zw.s ⟨rfl, Nat.le_refl _, hR⟩
set_option maxRecDepth 100000 in
set_option maxHeartbeats 4000000 in
theorem sX7_breaks_0 {N : Nat} {r : Int32} {T : zS}  {S : zS} {Sr : zS} {z : Nat} {x0 : Nat} {x1 : Int32} {x2 : Int32} {x3 : Int32} (hR : zR rows lm u z S Sr) (nx0 : zn rows x0) (h : fX7_breaks_0 N S x0 x1 x2 x3 = some (r, T)) : zw (rX7_breaks_0 N Sr z x0 x1 x2 x3) (tQ rows lm u z r T) := by
  unfold fX7_breaks_0 at h
  unfold rX7_breaks_0
  refine zgeI_w (Nat.le_refl _) ?_
  obtain ⟨v2, S1, eS1, h⟩ := zb2_some h
  refine sc2 (sX7_isRoom hR eS1) (fun S1r hR => ?_)
  by_cases c : v2 = (0 : Int32)
  · have h := (if_pos c).symm.trans h
    refine zw.t c ?_
    exact sX7_breaks_22  hR h
  · have h := (if_neg c).symm.trans h
    refine zw.f c ?_
    obtain ⟨u3, eu3, h⟩ := zb_some h
    refine zw.e (hR.rc eu3) ?_
    obtain ⟨v5, S4, eS4, h⟩ := zb2_some h
    refine sc2 (sX7_isStep hR nx0 eS4) (fun S4r hR => ?_)
    by_cases c : v5 = (0 : Int32)
    · have h := (if_pos c).symm.trans h
      refine zw.t c ?_
      exact sX7_breaks_22  hR h
    · have h := (if_neg c).symm.trans h
      refine zw.f c ?_
      obtain ⟨v7, S6, eS6, h⟩ := zb2_some h
      refine sc2 (sX7_isWord hR eS6) (fun S6r hR => ?_)
      by_cases c : v7 = (0 : Int32)
      · have h := (if_pos c).symm.trans h
        refine zw.t c ?_
        exact sX7_breaks_22  hR h
      · have h := (if_neg c).symm.trans h
        refine zw.f c ?_
        obtain ⟨u8, eu8, h⟩ := zb_some h
        refine zw.e (hR.rc eu8) ?_
        obtain ⟨v11, S9, eS9, h⟩ := zb2_some h
        refine sc3 (sX7_firstUnlike hR nx0 eS9) (fun S9r z10 hmz10 hR => ?_)
        refine zgeI_w hmz10 ?_
        by_cases c : v11 = (-1 : Int32)
        · have h := (if_pos c).symm.trans h
          refine zw.t c ?_
          exact sX7_breaks_49  hR h
        · have h := (if_neg c).symm.trans h
          refine zw.f c ?_
          exact sX7_breaks_49  hR h
theorem sX7_breaks {N : Nat} {r : Int32} {T : zS} {S : zS} {Sr : zS} {z : Nat} {x0 : Nat} {x1 : Int32} {x2 : Int32} {x3 : Int32} (hR : zR rows lm u z S Sr) (nx0 : zn rows x0) (h : fX7_breaks N S x0 x1 x2 x3 = some (r, T)) : zw (rX7_breaks N Sr z x0 x1 x2 x3) (tQ rows lm u z r T) := sX7_breaks_0 hR nx0 h
set_option maxRecDepth 100000 in
set_option maxHeartbeats 4000000 in
theorem sJ6_numberOfTrailingZeros_0f7a4_74 {N : Nat} {z : Nat} {r : Int32} {T : zS}  {S : zS} {Sr : zS} {x0 : Int32} {x1 : Int32} (hR : zR rows lm u z S Sr) (h : fJ6_numberOfTrailingZeros_0f7a4_74 N S x0 x1 = some (r, T)) : zw (fJ6_numberOfTrailingZeros_0f7a4_74 N Sr x0 x1) (sQ rows lm u z r T) := by
  unfold fJ6_numberOfTrailingZeros_0f7a4_74 at h
  unfold fJ6_numberOfTrailingZeros_0f7a4_74
  cases h
  exact zw.s ⟨rfl, hR⟩
set_option maxRecDepth 100000 in
set_option maxHeartbeats 4000000 in
theorem sJ6_numberOfTrailingZeros_0f7a4_62 {N : Nat} {z : Nat} {r : Int32} {T : zS}  {S : zS} {Sr : zS} {x0 : Int32} {x1 : Int32} (hR : zR rows lm u z S Sr) (h : fJ6_numberOfTrailingZeros_0f7a4_62 N S x0 x1 = some (r, T)) : zw (fJ6_numberOfTrailingZeros_0f7a4_62 N Sr x0 x1) (sQ rows lm u z r T) := by
  unfold fJ6_numberOfTrailingZeros_0f7a4_62 at h
  unfold fJ6_numberOfTrailingZeros_0f7a4_62
  by_cases c : x0 ≤ (4 : Int32)
  · have h := (if_pos c).symm.trans h
    refine zw.t c ?_
    exact sJ6_numberOfTrailingZeros_0f7a4_74  hR h
  · have h := (if_neg c).symm.trans h
    refine zw.f c ?_
    exact sJ6_numberOfTrailingZeros_0f7a4_74  hR h
set_option maxRecDepth 100000 in
set_option maxHeartbeats 4000000 in
theorem sJ6_numberOfTrailingZeros_0f7a4_49 {N : Nat} {z : Nat} {r : Int32} {T : zS}  {S : zS} {Sr : zS} {x0 : Int32} {x1 : Int32} (hR : zR rows lm u z S Sr) (h : fJ6_numberOfTrailingZeros_0f7a4_49 N S x0 x1 = some (r, T)) : zw (fJ6_numberOfTrailingZeros_0f7a4_49 N Sr x0 x1) (sQ rows lm u z r T) := by
  unfold fJ6_numberOfTrailingZeros_0f7a4_49 at h
  unfold fJ6_numberOfTrailingZeros_0f7a4_49
  by_cases c : x0 ≤ (16 : Int32)
  · have h := (if_pos c).symm.trans h
    refine zw.t c ?_
    exact sJ6_numberOfTrailingZeros_0f7a4_62  hR h
  · have h := (if_neg c).symm.trans h
    refine zw.f c ?_
    exact sJ6_numberOfTrailingZeros_0f7a4_62  hR h
set_option maxRecDepth 100000 in
set_option maxHeartbeats 4000000 in
theorem sJ6_numberOfTrailingZeros_0f7a4_34 {N : Nat} {z : Nat} {r : Int32} {T : zS}  {S : zS} {Sr : zS} {x0 : Int32} {x1 : Int32} (hR : zR rows lm u z S Sr) (h : fJ6_numberOfTrailingZeros_0f7a4_34 N S x0 x1 = some (r, T)) : zw (fJ6_numberOfTrailingZeros_0f7a4_34 N Sr x0 x1) (sQ rows lm u z r T) := by
  unfold fJ6_numberOfTrailingZeros_0f7a4_34 at h
  unfold fJ6_numberOfTrailingZeros_0f7a4_34
  by_cases c : x0 ≤ (256 : Int32)
  · have h := (if_pos c).symm.trans h
    refine zw.t c ?_
    exact sJ6_numberOfTrailingZeros_0f7a4_49  hR h
  · have h := (if_neg c).symm.trans h
    refine zw.f c ?_
    exact sJ6_numberOfTrailingZeros_0f7a4_49  hR h
set_option maxRecDepth 100000 in
set_option maxHeartbeats 4000000 in
theorem sJ6_numberOfTrailingZeros_0f7a4_0 {N : Nat} {z : Nat} {r : Int32} {T : zS}  {S : zS} {Sr : zS} {x0 : Int32} (hR : zR rows lm u z S Sr) (h : fJ6_numberOfTrailingZeros_0f7a4_0 N S x0 = some (r, T)) : zw (fJ6_numberOfTrailingZeros_0f7a4_0 N Sr x0) (sQ rows lm u z r T) := by
  unfold fJ6_numberOfTrailingZeros_0f7a4_0 at h
  unfold fJ6_numberOfTrailingZeros_0f7a4_0
  obtain ⟨v1, ev1⟩ : ∃ y : Int32, y = ((x0 ^^^ (-1 : Int32)) &&& (x0 - (1 : Int32))) := ⟨_, rfl⟩
  have h := zlet_at ev1 h
  refine zw_let ev1 ?_
  by_cases c : (0 : Int32) < v1
  · have h := (if_pos c).symm.trans h
    refine zw.t c ?_
    by_cases c : v1 ≤ (65536 : Int32)
    · have h := (if_pos c).symm.trans h
      refine zw.t c ?_
      exact sJ6_numberOfTrailingZeros_0f7a4_34  hR h
    · have h := (if_neg c).symm.trans h
      refine zw.f c ?_
      exact sJ6_numberOfTrailingZeros_0f7a4_34  hR h
  · have h := (if_neg c).symm.trans h
    refine zw.f c ?_
    cases h
    exact zw.s ⟨rfl, hR⟩
theorem sJ6_numberOfTrailingZeros_0f7a4 {N : Nat} {z : Nat} {r : Int32} {T : zS} {S : zS} {Sr : zS} {x0 : Int32} (hR : zR rows lm u z S Sr) (h : fJ6_numberOfTrailingZeros_0f7a4 N S x0 = some (r, T)) : zw (fJ6_numberOfTrailingZeros_0f7a4 N Sr x0) (sQ rows lm u z r T) := sJ6_numberOfTrailingZeros_0f7a4_0 hR h
set_option maxRecDepth 100000 in
set_option maxHeartbeats 4000000 in
theorem sX7_wordsUnlikeIn_38 {N : Nat} {z : Nat} {r : Int32} {T : zS} {Kv12 : zS × Nat × Int32 × Int32 × Int32 × Int32 → Option (Int32 × zS)} {K12 : zS × Nat × Int32 × Int32 × Int32 × Int32 → Option (Int32 × zS)} (hK12 : ∀ (S : zS) (Sr : zS) (x0 : Nat) (x1 : Int32) (x2 : Int32) (x3 : Int32) (x4 : Int32), zR rows lm u z S Sr → zn rows x0 → Kv12 (S, x0, x1, x2, x3, x4) = some (r, T) → zw (K12 (Sr, x0, x1, x2, x3, x4)) (sQ rows lm u z r T)) {S : zS} {Sr : zS} {x0 : Nat} {x1 : Int32} {x2 : Int32} {x3 : Int32} {x4 : Int32} (hR : zR rows lm u z S Sr) (nx0 : zn rows x0) (h : fX7_wordsUnlikeIn_38 N Kv12 S x0 x1 x2 x3 x4 = some (r, T)) : zw (rX7_wordsUnlikeIn_38 N K12 Sr x0 x1 x2 x3 x4) (sQ rows lm u z r T) := by
  unfold fX7_wordsUnlikeIn_38 at h
  unfold rX7_wordsUnlikeIn_38
  exact hK12 _ _ _ _ _ _ _ hR nx0 h
set_option maxRecDepth 100000 in
set_option maxHeartbeats 4000000 in
theorem sX7_wordsUnlikeIn_12 {N : Nat} {z : Nat} {r : Int32} {T : zS} {Kv12 : zS × Nat × Int32 × Int32 × Int32 × Int32 → Option (Int32 × zS)} {K12 : zS × Nat × Int32 × Int32 × Int32 × Int32 → Option (Int32 × zS)} (hK12 : ∀ (S : zS) (Sr : zS) (x0 : Nat) (x1 : Int32) (x2 : Int32) (x3 : Int32) (x4 : Int32), zR rows lm u z S Sr → zn rows x0 → Kv12 (S, x0, x1, x2, x3, x4) = some (r, T) → zw (K12 (Sr, x0, x1, x2, x3, x4)) (sQ rows lm u z r T)) {S : zS} {Sr : zS} {x0 : Nat} {x1 : Int32} {x2 : Int32} {x3 : Int32} {x4 : Int32} (hR : zR rows lm u z S Sr) (nx0 : zn rows x0) (h : fX7_wordsUnlikeIn_12 N Kv12 S x0 x1 x2 x3 x4 = some (r, T)) : zw (rX7_wordsUnlikeIn_12 N K12 Sr x0 x1 x2 x3 x4) (sQ rows lm u z r T) := by
  unfold fX7_wordsUnlikeIn_12 at h
  unfold rX7_wordsUnlikeIn_12
  by_cases c : (8 : Int32) ≤ x4
  · have h := (if_pos c).symm.trans h
    refine zw.t c ?_
    cases h
    exact zw.s ⟨rfl, hR⟩
  · have h := (if_neg c).symm.trans h
    refine zw.f c ?_
    by_cases c : ((zush x1 x4) &&& (1 : Int32)) = (0 : Int32)
    · have h := (if_pos c).symm.trans h
      refine zw.t c ?_
      exact sX7_wordsUnlikeIn_38 hK12  hR nx0 h
    · have h := (if_neg c).symm.trans h
      refine zw.f c ?_
      obtain ⟨u1, eu1, h⟩ := zb_some h
      refine zw.e (hR.rc eu1) ?_
      obtain ⟨v3, S2, eS2, h⟩ := zb2_some h
      refine sc2 (sX7_unlikeWords hR nx0 eS2) (fun S2r hR => ?_)
      exact sX7_wordsUnlikeIn_38 hK12  hR nx0 h
set_option maxRecDepth 100000 in
set_option maxHeartbeats 4000000 in
theorem tX7_wordsUnlikeIn_12 {N : Nat} {z : Nat} {r : Int32} {T : zS}  {S : zS} {Sr : zS} {x0 : Nat} {x1 : Int32} {x2 : Int32} {x3 : Int32} {x4 : Int32} (hR : zR rows lm u z S Sr) (nx0 : zn rows x0) (h : lX7_wordsUnlikeIn_12 N S x0 x1 x2 x3 x4 = some (r, T)) : zw (rlX7_wordsUnlikeIn_12 N Sr x0 x1 x2 x3 x4) (sQ rows lm u z r T) := by
  unfold lX7_wordsUnlikeIn_12 at h
  unfold rlX7_wordsUnlikeIn_12
  refine zl_sim (I := fun y y' => ∃ (S : zS) (Sr : zS) (x0 : Nat) (x1 : Int32) (x2 : Int32) (x3 : Int32) (x4 : Int32), y = (S, x0, x1, x2, x3, x4) ∧ y' = (Sr, x0, x1, x2, x3, x4) ∧ zR rows lm u z S Sr ∧ zn rows x0) (Q := fun y' => (sQ rows lm u z r T)) ?_ N _ _ ⟨S, Sr, x0, x1, x2, x3, x4, rfl, rfl, hR, nx0⟩ h
  rintro K K' hK y y' ⟨S, Sr, x0, x1, x2, x3, x4, rfl, rfl, hR, nx0⟩ h
  exact sX7_wordsUnlikeIn_12 (fun S Sr x0 x1 x2 x3 x4 hR nx0 h => hK _ _ ⟨S, Sr, x0, x1, x2, x3, x4, rfl, rfl, hR, nx0⟩ h) hR nx0 h
set_option maxRecDepth 100000 in
set_option maxHeartbeats 4000000 in
theorem sX7_wordsUnlikeIn_0 {N : Nat} {z : Nat} {r : Int32} {T : zS}  {S : zS} {Sr : zS} {x0 : Nat} {x1 : Int32} (hR : zR rows lm u z S Sr) (nx0 : zn rows x0) (h : fX7_wordsUnlikeIn_0 N S x0 x1 = some (r, T)) : zw (rX7_wordsUnlikeIn_0 N Sr x0 x1) (sQ rows lm u z r T) := by
  unfold fX7_wordsUnlikeIn_0 at h
  unfold rX7_wordsUnlikeIn_0
  obtain ⟨v5, S4, eS4, h⟩ := zb2_some h
  refine sc2 (sJ6_numberOfTrailingZeros_0f7a4 hR eS4) (fun S4r hR => ?_)
  exact tX7_wordsUnlikeIn_12  hR nx0 h
theorem sX7_wordsUnlikeIn {N : Nat} {z : Nat} {r : Int32} {T : zS} {S : zS} {Sr : zS} {x0 : Nat} {x1 : Int32} (hR : zR rows lm u z S Sr) (nx0 : zn rows x0) (h : fX7_wordsUnlikeIn N S x0 x1 = some (r, T)) : zw (rX7_wordsUnlikeIn N Sr x0 x1) (sQ rows lm u z r T) := sX7_wordsUnlikeIn_0 hR nx0 h
set_option maxRecDepth 100000 in
set_option maxHeartbeats 4000000 in
theorem sX7_rooms_101 {N : Nat} {r : Int32} {T : zS} {Kv56 : zS × Nat × Int32 × Int32 × Int32 → Option (Int32 × zS)} {K56 : zS × Nat × Nat × Int32 × Int32 × Int32 → Option (Int32 × zS × Nat)} (hK56 : ∀ (S : zS) (Sr : zS) (z : Nat) (x0 : Nat) (x2 : Int32) (x3 : Int32) (x4 : Int32), zR rows lm u z S Sr → zn rows x0 → Kv56 (S, x0, x2, x3, x4) = some (r, T) → zw (K56 (Sr, z, x0, x2, x3, x4)) (tQ rows lm u z r T)) {Kv66 : zS × Nat × Int32 × Int32 × Int32 × Int32 → Option (Int32 × zS)} {K66 : zS × Nat × Nat × Int32 × Int32 × Int32 × Int32 → Option (Int32 × zS × Nat)} (hK66 : ∀ (S : zS) (Sr : zS) (z : Nat) (x0 : Nat) (x2 : Int32) (x3 : Int32) (x4 : Int32) (x5 : Int32), zR rows lm u z S Sr → zn rows x0 → Kv66 (S, x0, x2, x3, x4, x5) = some (r, T) → zw (K66 (Sr, z, x0, x2, x3, x4, x5)) (tQ rows lm u z r T)) {S : zS} {Sr : zS} {z : Nat} {x0 : Nat} {x2 : Int32} {x3 : Int32} {x4 : Int32} {x5 : Int32} (hR : zR rows lm u z S Sr) (nx0 : zn rows x0) (h : fX7_rooms_101 N Kv56 Kv66 S x0 x2 x3 x4 x5 = some (r, T)) : zw (rX7_rooms_101 N K56 K66 Sr z x0 x2 x3 x4 x5) (tQ rows lm u z r T) := by
  unfold fX7_rooms_101 at h
  unfold rX7_rooms_101
  refine zgeI_w (Nat.le_refl _) ?_
  exact hK66 _ _ _ _ _ _ _ _ hR nx0 h
set_option maxRecDepth 100000 in
set_option maxHeartbeats 4000000 in
theorem sX7_rooms_66 {N : Nat} {r : Int32} {T : zS} {Kv56 : zS × Nat × Int32 × Int32 × Int32 → Option (Int32 × zS)} {K56 : zS × Nat × Nat × Int32 × Int32 × Int32 → Option (Int32 × zS × Nat)} (hK56 : ∀ (S : zS) (Sr : zS) (z : Nat) (x0 : Nat) (x2 : Int32) (x3 : Int32) (x4 : Int32), zR rows lm u z S Sr → zn rows x0 → Kv56 (S, x0, x2, x3, x4) = some (r, T) → zw (K56 (Sr, z, x0, x2, x3, x4)) (tQ rows lm u z r T)) {Kv66 : zS × Nat × Int32 × Int32 × Int32 × Int32 → Option (Int32 × zS)} {K66 : zS × Nat × Nat × Int32 × Int32 × Int32 × Int32 → Option (Int32 × zS × Nat)} (hK66 : ∀ (S : zS) (Sr : zS) (z : Nat) (x0 : Nat) (x2 : Int32) (x3 : Int32) (x4 : Int32) (x5 : Int32), zR rows lm u z S Sr → zn rows x0 → Kv66 (S, x0, x2, x3, x4, x5) = some (r, T) → zw (K66 (Sr, z, x0, x2, x3, x4, x5)) (tQ rows lm u z r T)) {S : zS} {Sr : zS} {z : Nat} {x0 : Nat} {x2 : Int32} {x3 : Int32} {x4 : Int32} {x5 : Int32} (hR : zR rows lm u z S Sr) (nx0 : zn rows x0) (h : fX7_rooms_66 N Kv56 Kv66 S x0 x2 x3 x4 x5 = some (r, T)) : zw (rX7_rooms_66 N K56 K66 Sr z x0 x2 x3 x4 x5) (tQ rows lm u z r T) := by
  unfold fX7_rooms_66 at h
  unfold rX7_rooms_66
  refine zgeI_w (Nat.le_refl _) ?_
  by_cases c : (255 : Int32) < x5
  · have h := (if_pos c).symm.trans h
    refine zw.t c ?_
    exact hK56 _ _ _ _ _ _ _ hR nx0 h
  · have h := (if_neg c).symm.trans h
    refine zw.f c ?_
    obtain ⟨v2, S1, eS1, h⟩ := zb2_some h
    refine sc2 (sX7_isPart hR eS1) (fun S1r hR => ?_)
    by_cases c : v2 = (0 : Int32)
    · have h := (if_pos c).symm.trans h
      refine zw.t c ?_
      exact sX7_rooms_101 hK56 hK66  hR nx0 h
    · have h := (if_neg c).symm.trans h
      refine zw.f c ?_
      obtain ⟨u3, eu3, h⟩ := zb_some h
      refine zw.e (hR.rc eu3) ?_
      obtain ⟨v5, S4, eS4, h⟩ := zb2_some h
      refine sc2 (sX7_wordsUnlikeIn hR nx0 eS4) (fun S4r hR => ?_)
      by_cases c : (x3 &&& (v5 ^^^ (-1 : Int32))) = (0 : Int32)
      · have h := (if_pos c).symm.trans h
        refine zw.t c ?_
        cases h
        exact zw.s ⟨rfl, Nat.le_refl _, hR⟩
      · have h := (if_neg c).symm.trans h
        refine zw.f c ?_
        exact sX7_rooms_101 hK56 hK66  hR nx0 h
set_option maxRecDepth 100000 in
set_option maxHeartbeats 4000000 in
theorem tX7_rooms_66 {N : Nat} {r : Int32} {T : zS} {Kv56 : zS × Nat × Int32 × Int32 × Int32 → Option (Int32 × zS)} {K56 : zS × Nat × Nat × Int32 × Int32 × Int32 → Option (Int32 × zS × Nat)} (hK56 : ∀ (S : zS) (Sr : zS) (z : Nat) (x0 : Nat) (x2 : Int32) (x3 : Int32) (x4 : Int32), zR rows lm u z S Sr → zn rows x0 → Kv56 (S, x0, x2, x3, x4) = some (r, T) → zw (K56 (Sr, z, x0, x2, x3, x4)) (tQ rows lm u z r T)) {S : zS} {Sr : zS} {z : Nat} {x0 : Nat} {x2 : Int32} {x3 : Int32} {x4 : Int32} {x5 : Int32} (hR : zR rows lm u z S Sr) (nx0 : zn rows x0) (h : lX7_rooms_66 N Kv56 S x0 x2 x3 x4 x5 = some (r, T)) : zw (rlX7_rooms_66 N K56 Sr z x0 x2 x3 x4 x5) (tQ rows lm u z r T) := by
  unfold lX7_rooms_66 at h
  unfold rlX7_rooms_66
  refine zl_sim (I := fun y y' => ∃ (S : zS) (Sr : zS) (z : Nat) (x0 : Nat) (x2 : Int32) (x3 : Int32) (x4 : Int32) (x5 : Int32), y = (S, x0, x2, x3, x4, x5) ∧ y' = (Sr, z, x0, x2, x3, x4, x5) ∧ zR rows lm u z S Sr ∧ zn rows x0) (Q := fun y' => (tQ rows lm u y'.2.1 r T)) ?_ N _ _ ⟨S, Sr, z, x0, x2, x3, x4, x5, rfl, rfl, hR, nx0⟩ h
  rintro K K' hK y y' ⟨S, Sr, z, x0, x2, x3, x4, x5, rfl, rfl, hR, nx0⟩ h
  exact sX7_rooms_66 hK56 (fun S Sr z x0 x2 x3 x4 x5 hR nx0 h => hK _ _ ⟨S, Sr, z, x0, x2, x3, x4, x5, rfl, rfl, hR, nx0⟩ h) hR nx0 h
set_option maxRecDepth 100000 in
set_option maxHeartbeats 4000000 in
theorem sX7_rooms_56 {N : Nat} {r : Int32} {T : zS} {Kv56 : zS × Nat × Int32 × Int32 × Int32 → Option (Int32 × zS)} {K56 : zS × Nat × Nat × Int32 × Int32 × Int32 → Option (Int32 × zS × Nat)} (hK56 : ∀ (S : zS) (Sr : zS) (z : Nat) (x0 : Nat) (x2 : Int32) (x3 : Int32) (x4 : Int32), zR rows lm u z S Sr → zn rows x0 → Kv56 (S, x0, x2, x3, x4) = some (r, T) → zw (K56 (Sr, z, x0, x2, x3, x4)) (tQ rows lm u z r T)) {S : zS} {Sr : zS} {z : Nat} {x0 : Nat} {x2 : Int32} {x3 : Int32} {x4 : Int32} (hR : zR rows lm u z S Sr) (nx0 : zn rows x0) (h : fX7_rooms_56 N Kv56 S x0 x2 x3 x4 = some (r, T)) : zw (rX7_rooms_56 N K56 Sr z x0 x2 x3 x4) (tQ rows lm u z r T) := by
  unfold fX7_rooms_56 at h
  unfold rX7_rooms_56
  refine zgeI_w (Nat.le_refl _) ?_
  by_cases c : (8 : Int32) < x4
  · have h := (if_pos c).symm.trans h
    refine zw.t c ?_
    cases h
    exact zw.s ⟨rfl, Nat.le_refl _, hR⟩
  · have h := (if_neg c).symm.trans h
    refine zw.f c ?_
    exact tX7_rooms_66 hK56  hR nx0 h
set_option maxRecDepth 100000 in
set_option maxHeartbeats 4000000 in
theorem tX7_rooms_56 {N : Nat} {r : Int32} {T : zS}  {S : zS} {Sr : zS} {z : Nat} {x0 : Nat} {x2 : Int32} {x3 : Int32} {x4 : Int32} (hR : zR rows lm u z S Sr) (nx0 : zn rows x0) (h : lX7_rooms_56 N S x0 x2 x3 x4 = some (r, T)) : zw (rlX7_rooms_56 N Sr z x0 x2 x3 x4) (tQ rows lm u z r T) := by
  unfold lX7_rooms_56 at h
  unfold rlX7_rooms_56
  refine zl_sim (I := fun y y' => ∃ (S : zS) (Sr : zS) (z : Nat) (x0 : Nat) (x2 : Int32) (x3 : Int32) (x4 : Int32), y = (S, x0, x2, x3, x4) ∧ y' = (Sr, z, x0, x2, x3, x4) ∧ zR rows lm u z S Sr ∧ zn rows x0) (Q := fun y' => (tQ rows lm u y'.2.1 r T)) ?_ N _ _ ⟨S, Sr, z, x0, x2, x3, x4, rfl, rfl, hR, nx0⟩ h
  rintro K K' hK y y' ⟨S, Sr, z, x0, x2, x3, x4, rfl, rfl, hR, nx0⟩ h
  exact sX7_rooms_56 (fun S Sr z x0 x2 x3 x4 hR nx0 h => hK _ _ ⟨S, Sr, z, x0, x2, x3, x4, rfl, rfl, hR, nx0⟩ h) hR nx0 h
set_option maxRecDepth 100000 in
set_option maxHeartbeats 4000000 in
theorem sX7_rooms_20 {N : Nat} {r : Int32} {T : zS}  {S : zS} {Sr : zS} {z : Nat} (hR : zR rows lm u z S Sr) (h : fX7_rooms_20 N S = some (r, T)) : zw (rX7_rooms_20 N Sr z) (tQ rows lm u z r T) := by
  unfold fX7_rooms_20 at h
  unfold rX7_rooms_20
  refine zgeI_w (Nat.le_refl _) ?_
  cases h
  exact zw.s ⟨rfl, Nat.le_refl _, hR⟩
set_option maxRecDepth 100000 in
set_option maxHeartbeats 4000000 in
theorem sX7_rooms_0 {N : Nat} {r : Int32} {T : zS}  {S : zS} {Sr : zS} {z : Nat} {x0 : Nat} {x1 : Int32} {x2 : Int32} (hR : zR rows lm u z S Sr) (nx0 : zn rows x0) (h : fX7_rooms_0 N S x0 x1 x2 = some (r, T)) : zw (rX7_rooms_0 N Sr z x0 x1 x2) (tQ rows lm u z r T) := by
  unfold fX7_rooms_0 at h
  unfold rX7_rooms_0
  refine zgeI_w (Nat.le_refl _) ?_
  obtain ⟨u6, eu6, h⟩ := zb_some h
  refine zw.e (hR.rc eu6) ?_
  obtain ⟨v8, S7, eS7, h⟩ := zb2_some h
  refine sc2 (sX7_isStep hR nx0 eS7) (fun S7r hR => ?_)
  by_cases c : v8 = (0 : Int32)
  · have h := (if_pos c).symm.trans h
    refine zw.t c ?_
    exact sX7_rooms_20  hR h
  · have h := (if_neg c).symm.trans h
    refine zw.f c ?_
    by_cases c : x2 < (1 : Int32)
    · have h := (if_pos c).symm.trans h
      refine zw.t c ?_
      exact sX7_rooms_20  hR h
    · have h := (if_neg c).symm.trans h
      refine zw.f c ?_
      by_cases c : x2 ≤ (255 : Int32)
      · have h := (if_pos c).symm.trans h
        refine zw.t c ?_
        obtain ⟨v9, ev9, h⟩ := zb_some h
        have nv9 := hR.gn (by decide) ev9
        refine zw.e (hR.gr (by decide) ev9) ?_
        obtain ⟨v10, ev10, h⟩ := zb_some h
        have nv10 := hR.gn (by decide) ev10
        refine zw.e (hR.gr (by decide) ev10) ?_
        obtain ⟨v11, ev11, h⟩ := zb_some h
        have nv11 := hR.an (by decide) ev11
        refine zw.e (hR.al (by decide) ev11) ?_
        obtain ⟨u12, eu12, h⟩ := zb_some h
        refine zw.e (hR.rc eu12) ?_
        obtain ⟨S13, eS13, h⟩ := zb_some h
        refine sc2z (sX1_makeIn hR nv9 nv11 eS13) (fun S13r z14 hmz14 hR => ?_)
        refine zgeI_w hmz14 ?_
        obtain ⟨v15, ev15, h⟩ := zb_some h
        have nv15 := hR.gn (by decide) ev15
        refine zw.e (hR.gr (by decide) ev15) ?_
        obtain ⟨v16, ev16, h⟩ := zb_some h
        have nv16 := hR.gn (by decide) ev16
        refine zw.e (hR.gr (by decide) ev16) ?_
        obtain ⟨v17, ev17, h⟩ := zb_some h
        have nv17 := hR.gn (by decide) ev17
        refine zw.e (hR.gr (by decide) ev17) ?_
        obtain ⟨v18, ev18, h⟩ := zb_some h
        refine zw.e (hR.il nv17 ev18) ?_
        obtain ⟨u19, eu19, h⟩ := zb_some h
        refine zw.e (hR.rc eu19) ?_
        obtain ⟨v21, S20, eS20, h⟩ := zb2_some h
        refine sc2 (sX1_wordsRead hR nv15 eS20) (fun S20r hR => ?_)
        exact tX7_rooms_56  hR nx0 h
      · have h := (if_neg c).symm.trans h
        refine zw.f c ?_
        exact sX7_rooms_20  hR h
theorem sX7_rooms {N : Nat} {r : Int32} {T : zS} {S : zS} {Sr : zS} {z : Nat} {x0 : Nat} {x1 : Int32} {x2 : Int32} (hR : zR rows lm u z S Sr) (nx0 : zn rows x0) (h : fX7_rooms N S x0 x1 x2 = some (r, T)) : zw (rX7_rooms N Sr z x0 x1 x2) (tQ rows lm u z r T) := sX7_rooms_0 hR nx0 h
set_option maxRecDepth 100000 in
set_option maxHeartbeats 4000000 in
theorem sX7_isMaker_15 {N : Nat} {z : Nat} {r : Int32} {T : zS}  {S : zS} {Sr : zS} {y0 : Int32} (hR : zR rows lm u z S Sr) (h : fX7_isMaker_15 N S y0 = some (r, T)) : zw (rX7_isMaker_15 N Sr y0) (sQ rows lm u z r T) := by
  unfold fX7_isMaker_15 at h
  unfold rX7_isMaker_15
  cases h
  exact zw.s ⟨rfl, hR⟩
set_option maxRecDepth 100000 in
set_option maxHeartbeats 4000000 in
theorem sX7_isMaker_14 {N : Nat} {z : Nat} {r : Int32} {T : zS}  {S : zS} {Sr : zS} (hR : zR rows lm u z S Sr) (h : fX7_isMaker_14 N S = some (r, T)) : zw (rX7_isMaker_14 N Sr) (sQ rows lm u z r T) := by
  unfold fX7_isMaker_14 at h
  unfold rX7_isMaker_14
  exact sX7_isMaker_15  hR h
set_option maxRecDepth 100000 in
set_option maxHeartbeats 4000000 in
theorem sX7_isMaker_0 {N : Nat} {z : Nat} {r : Int32} {T : zS}  {S : zS} {Sr : zS} {x0 : Int32} (hR : zR rows lm u z S Sr) (h : fX7_isMaker_0 N S x0 = some (r, T)) : zw (rX7_isMaker_0 N Sr x0) (sQ rows lm u z r T) := by
  unfold fX7_isMaker_0 at h
  unfold rX7_isMaker_0
  by_cases c : x0 < (0 : Int32)
  · have h := (if_pos c).symm.trans h
    refine zw.t c ?_
    exact sX7_isMaker_14  hR h
  · have h := (if_neg c).symm.trans h
    refine zw.f c ?_
    by_cases c : (30 : Int32) ≤ x0
    · have h := (if_pos c).symm.trans h
      refine zw.t c ?_
      exact sX7_isMaker_14  hR h
    · have h := (if_neg c).symm.trans h
      refine zw.f c ?_
      exact sX7_isMaker_15  hR h
theorem sX7_isMaker {N : Nat} {z : Nat} {r : Int32} {T : zS} {S : zS} {Sr : zS} {x0 : Int32} (hR : zR rows lm u z S Sr) (h : fX7_isMaker N S x0 = some (r, T)) : zw (rX7_isMaker N Sr x0) (sQ rows lm u z r T) := sX7_isMaker_0 hR h
set_option maxRecDepth 100000 in
set_option maxHeartbeats 4000000 in
theorem sX7_maker_57 {N : Nat} {z : Nat} {r : Int32} {T : zS}  {S : zS} {Sr : zS} {y0 : Nat} {y1 : Int32} {y2 : Int32} (hR : zR rows lm u z S Sr) (ny0 : zn rows y0) (h : fX7_maker_57 N S y0 y1 y2 = some (r, T)) : zw (rX7_maker_57 N Sr y0 y1 y2) (sQ rows lm u z r T) := by
  unfold fX7_maker_57 at h
  unfold rX7_maker_57
  obtain ⟨S1, eS1, h⟩ := zb_some h
  obtain ⟨S1r, qS1, hR⟩ := hR.is ny0 eS1
  refine zw.e qS1 ?_
  cases h
  exact zw.s ⟨rfl, hR⟩
set_option maxRecDepth 100000 in
set_option maxHeartbeats 4000000 in
theorem sX7_maker_29 {N : Nat} {z : Nat} {r : Int32} {T : zS}  {S : zS} {Sr : zS} {x0 : Nat} {x1 : Int32} {x2 : Int32} {x3 : Int32} (hR : zR rows lm u z S Sr) (nx0 : zn rows x0) (h : fX7_maker_29 N S x0 x1 x2 x3 = some (r, T)) : zw (rX7_maker_29 N Sr x0 x1 x2 x3) (sQ rows lm u z r T) := by
  unfold fX7_maker_29 at h
  unfold rX7_maker_29
  obtain ⟨v2, ev2, h⟩ := zb_some h
  have nv2 := hR.gn (by decide) ev2
  refine zw.e (hR.gr (by decide) ev2) ?_
  obtain ⟨v3, ev3, h⟩ := zb_some h
  have nv3 := hR.gn (by decide) ev3
  refine zw.e (hR.gr (by decide) ev3) ?_
  obtain ⟨S4, eS4, h⟩ := zb_some h
  obtain ⟨S4r, qS4, hR⟩ := hR.is nv3 eS4
  refine zw.e qS4 ?_
  obtain ⟨v5, ev5, h⟩ := zb_some h
  have nv5 := hR.gn (by decide) ev5
  refine zw.e (hR.gr (by decide) ev5) ?_
  obtain ⟨v6, ev6, h⟩ := zb_some h
  have nv6 := hR.gn (by decide) ev6
  refine zw.e (hR.gr (by decide) ev6) ?_
  by_cases c : x2 = (-1 : Int32)
  · have h := (if_pos c).symm.trans h
    refine zw.t c ?_
    exact sX7_maker_57  hR nv6 h
  · have h := (if_neg c).symm.trans h
    refine zw.f c ?_
    exact sX7_maker_57  hR nv6 h
set_option maxRecDepth 100000 in
set_option maxHeartbeats 4000000 in
theorem sX7_maker_27 {N : Nat} {z : Nat} {r : Int32} {T : zS}  {S : zS} {Sr : zS} (hR : zR rows lm u z S Sr) (h : fX7_maker_27 N S = some (r, T)) : zw (rX7_maker_27 N Sr) (sQ rows lm u z r T) := by
  unfold fX7_maker_27 at h
  unfold rX7_maker_27
  cases h
  exact zw.s ⟨rfl, hR⟩
set_option maxRecDepth 100000 in
set_option maxHeartbeats 4000000 in
theorem sX7_maker_0 {N : Nat} {z : Nat} {r : Int32} {T : zS}  {S : zS} {Sr : zS} {x0 : Nat} {x1 : Int32} {x2 : Int32} {x3 : Int32} (hR : zR rows lm u z S Sr) (nx0 : zn rows x0) (h : fX7_maker_0 N S x0 x1 x2 x3 = some (r, T)) : zw (rX7_maker_0 N Sr x0 x1 x2 x3) (sQ rows lm u z r T) := by
  unfold fX7_maker_0 at h
  unfold rX7_maker_0
  obtain ⟨v8, S7, eS7, h⟩ := zb2_some h
  refine sc2 (sX7_isMaker hR eS7) (fun S7r hR => ?_)
  by_cases c : v8 = (0 : Int32)
  · have h := (if_pos c).symm.trans h
    refine zw.t c ?_
    exact sX7_maker_27  hR h
  · have h := (if_neg c).symm.trans h
    refine zw.f c ?_
    by_cases c : x2 = (-1 : Int32)
    · have h := (if_pos c).symm.trans h
      refine zw.t c ?_
      exact sX7_maker_29  hR nx0 h
    · have h := (if_neg c).symm.trans h
      refine zw.f c ?_
      obtain ⟨v10, S9, eS9, h⟩ := zb2_some h
      refine sc2 (sX7_isMaker hR eS9) (fun S9r hR => ?_)
      by_cases c : v10 = (0 : Int32)
      · have h := (if_pos c).symm.trans h
        refine zw.t c ?_
        exact sX7_maker_27  hR h
      · have h := (if_neg c).symm.trans h
        refine zw.f c ?_
        obtain ⟨u11, eu11, h⟩ := zb_some h
        refine zw.e (hR.rc eu11) ?_
        obtain ⟨v13, S12, eS12, h⟩ := zb2_some h
        refine sc2 (sX7_isText hR nx0 eS12) (fun S12r hR => ?_)
        by_cases c : v13 = (0 : Int32)
        · have h := (if_pos c).symm.trans h
          refine zw.t c ?_
          exact sX7_maker_27  hR h
        · have h := (if_neg c).symm.trans h
          refine zw.f c ?_
          exact sX7_maker_29  hR nx0 h
theorem sX7_maker {N : Nat} {z : Nat} {r : Int32} {T : zS} {S : zS} {Sr : zS} {x0 : Nat} {x1 : Int32} {x2 : Int32} {x3 : Int32} (hR : zR rows lm u z S Sr) (nx0 : zn rows x0) (h : fX7_maker N S x0 x1 x2 x3 = some (r, T)) : zw (rX7_maker N Sr x0 x1 x2 x3) (sQ rows lm u z r T) := sX7_maker_0 hR nx0 h
set_option maxRecDepth 100000 in
set_option maxHeartbeats 4000000 in
theorem sX7_down_39 {N : Nat} {z : Nat} {r : Int32} {T : zS}  {S : zS} {Sr : zS} {y0 : Int32} (hR : zR rows lm u z S Sr) (h : fX7_down_39 N S y0 = some (r, T)) : zw (rX7_down_39 N Sr y0) (sQ rows lm u z r T) := by
  unfold fX7_down_39 at h
  unfold rX7_down_39
  cases h
  exact zw.s ⟨rfl, hR⟩
set_option maxRecDepth 100000 in
set_option maxHeartbeats 4000000 in
theorem sX7_down_0 {N : Nat} {z : Nat} {r : Int32} {T : zS}  {S : zS} {Sr : zS} {x0 : Nat} {x1 : Int32} (hR : zR rows lm u z S Sr) (nx0 : zn rows x0) (h : fX7_down_0 N S x0 x1 = some (r, T)) : zw (rX7_down_0 N Sr x0 x1) (sQ rows lm u z r T) := by
  unfold fX7_down_0 at h
  unfold rX7_down_0
  obtain ⟨v2, S1, eS1, h⟩ := zb2_some h
  refine sc2 (sX7_isMaker hR eS1) (fun S1r hR => ?_)
  by_cases c : v2 = (0 : Int32)
  · have h := (if_pos c).symm.trans h
    refine zw.t c ?_
    cases h
    exact zw.s ⟨rfl, hR⟩
  · have h := (if_neg c).symm.trans h
    refine zw.f c ?_
    obtain ⟨v3, ev3, h⟩ := zb_some h
    have nv3 := hR.gn (by decide) ev3
    refine zw.e (hR.gr (by decide) ev3) ?_
    obtain ⟨u4, eu4, h⟩ := zb_some h
    refine zw.e (hR.rc eu4) ?_
    obtain ⟨v6, S5, eS5, h⟩ := zb2_some h
    refine sc2 (sX2_ringStart hR nv3 eS5) (fun S5r hR => ?_)
    by_cases c : v6 = (-1 : Int32)
    · have h := (if_pos c).symm.trans h
      refine zw.t c ?_
      obtain ⟨v7, ev7, h⟩ := zb_some h
      have nv7 := hR.gn (by decide) ev7
      refine zw.e (hR.gr (by decide) ev7) ?_
      obtain ⟨u8, eu8, h⟩ := zb_some h
      refine zw.e (hR.rc eu8) ?_
      obtain ⟨v10, S9, eS9, h⟩ := zb2_some h
      refine sc2 (sX2_way hR nv7 eS9) (fun S9r hR => ?_)
      obtain ⟨v12, S11, eS11, h⟩ := zb2_some h
      refine sc2 (sJ6_bitCount_0f7a4 hR eS11) (fun S11r hR => ?_)
      exact sX7_down_39  hR h
    · have h := (if_neg c).symm.trans h
      refine zw.f c ?_
      exact sX7_down_39  hR h
theorem sX7_down {N : Nat} {z : Nat} {r : Int32} {T : zS} {S : zS} {Sr : zS} {x0 : Nat} {x1 : Int32} (hR : zR rows lm u z S Sr) (nx0 : zn rows x0) (h : fX7_down N S x0 x1 = some (r, T)) : zw (rX7_down N Sr x0 x1) (sQ rows lm u z r T) := sX7_down_0 hR nx0 h
set_option maxRecDepth 100000 in
set_option maxHeartbeats 4000000 in
theorem sX7_ring_58 {N : Nat} {z : Nat} {r : Int32} {T : zS}  {S : zS} {Sr : zS} {y0 : Int32} (hR : zR rows lm u z S Sr) (h : fX7_ring_58 N S y0 = some (r, T)) : zw (rX7_ring_58 N Sr y0) (sQ rows lm u z r T) := by
  unfold fX7_ring_58 at h
  unfold rX7_ring_58
  cases h
  exact zw.s ⟨rfl, hR⟩
set_option maxRecDepth 100000 in
set_option maxHeartbeats 4000000 in
theorem sX7_ring_57 {N : Nat} {z : Nat} {r : Int32} {T : zS}  {S : zS} {Sr : zS} (hR : zR rows lm u z S Sr) (h : fX7_ring_57 N S = some (r, T)) : zw (rX7_ring_57 N Sr) (sQ rows lm u z r T) := by
  unfold fX7_ring_57 at h
  unfold rX7_ring_57
  exact sX7_ring_58  hR h
set_option maxRecDepth 100000 in
set_option maxHeartbeats 4000000 in
theorem sX7_ring_0 {N : Nat} {z : Nat} {r : Int32} {T : zS}  {S : zS} {Sr : zS} {x0 : Nat} {x1 : Int32} {x2 : Int32} (hR : zR rows lm u z S Sr) (nx0 : zn rows x0) (h : fX7_ring_0 N S x0 x1 x2 = some (r, T)) : zw (rX7_ring_0 N Sr x0 x1 x2) (sQ rows lm u z r T) := by
  unfold fX7_ring_0 at h
  unfold rX7_ring_0
  obtain ⟨v2, S1, eS1, h⟩ := zb2_some h
  refine sc2 (sX7_isMaker hR eS1) (fun S1r hR => ?_)
  by_cases c : v2 = (0 : Int32)
  · have h := (if_pos c).symm.trans h
    refine zw.t c ?_
    cases h
    exact zw.s ⟨rfl, hR⟩
  · have h := (if_neg c).symm.trans h
    refine zw.f c ?_
    obtain ⟨v3, ev3, h⟩ := zb_some h
    have nv3 := hR.gn (by decide) ev3
    refine zw.e (hR.gr (by decide) ev3) ?_
    obtain ⟨u4, eu4, h⟩ := zb_some h
    refine zw.e (hR.rc eu4) ?_
    obtain ⟨v6, S5, eS5, h⟩ := zb2_some h
    refine sc2 (sX2_ringStart hR nv3 eS5) (fun S5r hR => ?_)
    by_cases c : v6 = (-1 : Int32)
    · have h := (if_pos c).symm.trans h
      refine zw.t c ?_
      cases h
      exact zw.s ⟨rfl, hR⟩
    · have h := (if_neg c).symm.trans h
      refine zw.f c ?_
      by_cases c : x2 < (0 : Int32)
      · have h := (if_pos c).symm.trans h
        refine zw.t c ?_
        exact sX7_ring_57  hR h
      · have h := (if_neg c).symm.trans h
        refine zw.f c ?_
        obtain ⟨v7, ev7, h⟩ := zb_some h
        have nv7 := hR.gn (by decide) ev7
        refine zw.e (hR.gr (by decide) ev7) ?_
        obtain ⟨u8, eu8, h⟩ := zb_some h
        refine zw.e (hR.rc eu8) ?_
        obtain ⟨v10, S9, eS9, h⟩ := zb2_some h
        refine sc2 (sX2_way hR nv7 eS9) (fun S9r hR => ?_)
        obtain ⟨v12, S11, eS11, h⟩ := zb2_some h
        refine sc2 (sJ6_bitCount_0f7a4 hR eS11) (fun S11r hR => ?_)
        by_cases c : v12 ≤ x2
        · have h := (if_pos c).symm.trans h
          refine zw.t c ?_
          exact sX7_ring_57  hR h
        · have h := (if_neg c).symm.trans h
          refine zw.f c ?_
          obtain ⟨v13, ev13, h⟩ := zb_some h
          have nv13 := hR.gn (by decide) ev13
          refine zw.e (hR.gr (by decide) ev13) ?_
          obtain ⟨u14, eu14, h⟩ := zb_some h
          refine zw.e (hR.rc eu14) ?_
          obtain ⟨v16, S15, eS15, h⟩ := zb2_some h
          refine sc2 (sX2_after hR nv13 eS15) (fun S15r hR => ?_)
          exact sX7_ring_58  hR h
theorem sX7_ring {N : Nat} {z : Nat} {r : Int32} {T : zS} {S : zS} {Sr : zS} {x0 : Nat} {x1 : Int32} {x2 : Int32} (hR : zR rows lm u z S Sr) (nx0 : zn rows x0) (h : fX7_ring N S x0 x1 x2 = some (r, T)) : zw (rX7_ring N Sr x0 x1 x2) (sQ rows lm u z r T) := sX7_ring_0 hR nx0 h
set_option maxRecDepth 100000 in
set_option maxHeartbeats 4000000 in
theorem sX7_needs_49 {N : Nat} {z : Nat} {r : Int32} {T : zS}  {S : zS} {Sr : zS} {y0 : Int32} (hR : zR rows lm u z S Sr) (h : fX7_needs_49 N S y0 = some (r, T)) : zw (rX7_needs_49 N Sr y0) (sQ rows lm u z r T) := by
  unfold fX7_needs_49 at h
  unfold rX7_needs_49
  obtain ⟨v2, S1, eS1, h⟩ := zb2_some h
  refine sc2 (sJ6_bitCount_0f7a4 hR eS1) (fun S1r hR => ?_)
  cases h
  exact zw.s ⟨rfl, hR⟩
set_option maxRecDepth 100000 in
set_option maxHeartbeats 4000000 in
theorem sX7_needs_14 {N : Nat} {z : Nat} {r : Int32} {T : zS}  {S : zS} {Sr : zS} (hR : zR rows lm u z S Sr) (h : fX7_needs_14 N S = some (r, T)) : zw (rX7_needs_14 N Sr) (sQ rows lm u z r T) := by
  unfold fX7_needs_14 at h
  unfold rX7_needs_14
  cases h
  exact zw.s ⟨rfl, hR⟩
set_option maxRecDepth 100000 in
set_option maxHeartbeats 4000000 in
theorem sX7_needs_0 {N : Nat} {z : Nat} {r : Int32} {T : zS}  {S : zS} {Sr : zS} {x0 : Nat} {x1 : Int32} {x2 : Int32} (hR : zR rows lm u z S Sr) (nx0 : zn rows x0) (h : fX7_needs_0 N S x0 x1 x2 = some (r, T)) : zw (rX7_needs_0 N Sr x0 x1 x2) (sQ rows lm u z r T) := by
  unfold fX7_needs_0 at h
  unfold rX7_needs_0
  obtain ⟨v4, S3, eS3, h⟩ := zb2_some h
  refine sc2 (sX7_isMaker hR eS3) (fun S3r hR => ?_)
  by_cases c : v4 = (0 : Int32)
  · have h := (if_pos c).symm.trans h
    refine zw.t c ?_
    exact sX7_needs_14  hR h
  · have h := (if_neg c).symm.trans h
    refine zw.f c ?_
    obtain ⟨v6, S5, eS5, h⟩ := zb2_some h
    refine sc2 (sX7_isBit hR eS5) (fun S5r hR => ?_)
    by_cases c : v6 = (0 : Int32)
    · have h := (if_pos c).symm.trans h
      refine zw.t c ?_
      exact sX7_needs_14  hR h
    · have h := (if_neg c).symm.trans h
      refine zw.f c ?_
      obtain ⟨v7, ev7, h⟩ := zb_some h
      have nv7 := hR.gn (by decide) ev7
      refine zw.e (hR.gr (by decide) ev7) ?_
      obtain ⟨v8, ev8, h⟩ := zb_some h
      have nv8 := hR.gn (by decide) ev8
      refine zw.e (hR.gr (by decide) ev8) ?_
      obtain ⟨u9, eu9, h⟩ := zb_some h
      refine zw.e (hR.rc eu9) ?_
      obtain ⟨v11, S10, eS10, h⟩ := zb2_some h
      refine sc2 (sX2_way hR nv8 eS10) (fun S10r hR => ?_)
      obtain ⟨u12, eu12, h⟩ := zb_some h
      refine zw.e (hR.rc eu12) ?_
      obtain ⟨v14, S13, eS13, h⟩ := zb2_some h
      refine sc2 (sX2_textsOn hR nv7 eS13) (fun S13r hR => ?_)
      by_cases c : x2 = (0 : Int32)
      · have h := (if_pos c).symm.trans h
        refine zw.t c ?_
        exact sX7_needs_49  hR h
      · have h := (if_neg c).symm.trans h
        refine zw.f c ?_
        obtain ⟨v15, ev15, h⟩ := zb_some h
        have nv15 := hR.gn (by decide) ev15
        refine zw.e (hR.gr (by decide) ev15) ?_
        obtain ⟨v16, ev16, h⟩ := zb_some h
        refine zw.e (hR.gi (by decide) ev16) ?_
        exact sX7_needs_49  hR h
theorem sX7_needs {N : Nat} {z : Nat} {r : Int32} {T : zS} {S : zS} {Sr : zS} {x0 : Nat} {x1 : Int32} {x2 : Int32} (hR : zR rows lm u z S Sr) (nx0 : zn rows x0) (h : fX7_needs N S x0 x1 x2 = some (r, T)) : zw (rX7_needs N Sr x0 x1 x2) (sQ rows lm u z r T) := sX7_needs_0 hR nx0 h
set_option maxRecDepth 100000 in
set_option maxHeartbeats 4000000 in
theorem sX7_forge_14 {N : Nat} {z : Nat} {r : Int32} {T : zS}  {S : zS} {Sr : zS} (hR : zR rows lm u z S Sr) (h : fX7_forge_14 N S = some (r, T)) : zw (rX7_forge_14 N Sr) (sQ rows lm u z r T) := by
  unfold fX7_forge_14 at h
  unfold rX7_forge_14
  cases h
  exact zw.s ⟨rfl, hR⟩
set_option maxRecDepth 100000 in
set_option maxHeartbeats 4000000 in
theorem sX7_forge_0 {N : Nat} {z : Nat} {r : Int32} {T : zS}  {S : zS} {Sr : zS} {x0 : Nat} {x1 : Int32} {x2 : Int32} (hR : zR rows lm u z S Sr) (nx0 : zn rows x0) (h : fX7_forge_0 N S x0 x1 x2 = some (r, T)) : zw (rX7_forge_0 N Sr x0 x1 x2) (sQ rows lm u z r T) := by
  unfold fX7_forge_0 at h
  unfold rX7_forge_0
  obtain ⟨v2, S1, eS1, h⟩ := zb2_some h
  refine sc2 (sX7_isMaker hR eS1) (fun S1r hR => ?_)
  by_cases c : v2 = (0 : Int32)
  · have h := (if_pos c).symm.trans h
    refine zw.t c ?_
    exact sX7_forge_14  hR h
  · have h := (if_neg c).symm.trans h
    refine zw.f c ?_
    obtain ⟨v4, S3, eS3, h⟩ := zb2_some h
    refine sc2 (sX7_isBit hR eS3) (fun S3r hR => ?_)
    by_cases c : v4 = (0 : Int32)
    · have h := (if_pos c).symm.trans h
      refine zw.t c ?_
      exact sX7_forge_14  hR h
    · have h := (if_neg c).symm.trans h
      refine zw.f c ?_
      obtain ⟨v5, ev5, h⟩ := zb_some h
      have nv5 := hR.gn (by decide) ev5
      refine zw.e (hR.gr (by decide) ev5) ?_
      obtain ⟨v6, ev6, h⟩ := zb_some h
      refine zw.e (hR.gi (by decide) ev6) ?_
      obtain ⟨v7, ev7⟩ : ∃ y : Int32, y = ((zush v6 x1) &&& (1 : Int32)) := ⟨_, rfl⟩
      have h := zlet_at ev7 h
      refine zw_let ev7 ?_
      obtain ⟨v8, ev8, h⟩ := zb_some h
      have nv8 := hR.gn (by decide) ev8
      refine zw.e (hR.gr (by decide) ev8) ?_
      obtain ⟨v9, ev9, h⟩ := zb_some h
      have nv9 := hR.gn (by decide) ev9
      refine zw.e (hR.gr (by decide) ev9) ?_
      obtain ⟨v10, ev10, h⟩ := zb_some h
      refine zw.e (hR.gi (by decide) ev10) ?_
      obtain ⟨v12, S11, eS11, h⟩ := zb2_some h
      refine sc2 (sX7_withBit hR eS11) (fun S11r hR => ?_)
      obtain ⟨S13, eS13, h⟩ := zb_some h
      obtain ⟨S13r, qS13, hR⟩ := hR.pi (by decide) eS13
      refine zw.e qS13 ?_
      cases h
      exact zw.s ⟨rfl, hR⟩
theorem sX7_forge {N : Nat} {z : Nat} {r : Int32} {T : zS} {S : zS} {Sr : zS} {x0 : Nat} {x1 : Int32} {x2 : Int32} (hR : zR rows lm u z S Sr) (nx0 : zn rows x0) (h : fX7_forge N S x0 x1 x2 = some (r, T)) : zw (rX7_forge N Sr x0 x1 x2) (sQ rows lm u z r T) := sX7_forge_0 hR nx0 h
set_option maxRecDepth 100000 in
set_option maxHeartbeats 4000000 in
theorem sX7_trust_33 {N : Nat} {z : Nat} {r : Int32} {T : zS}  {S : zS} {Sr : zS} {y0 : Int32} (hR : zR rows lm u z S Sr) (h : fX7_trust_33 N S y0 = some (r, T)) : zw (rX7_trust_33 N Sr y0) (sQ rows lm u z r T) := by
  unfold fX7_trust_33 at h
  unfold rX7_trust_33
  cases h
  exact zw.s ⟨rfl, hR⟩
set_option maxRecDepth 100000 in
set_option maxHeartbeats 4000000 in
theorem sX7_trust_0 {N : Nat} {z : Nat} {r : Int32} {T : zS}  {S : zS} {Sr : zS} {x0 : Nat} {x1 : Int32} (hR : zR rows lm u z S Sr) (nx0 : zn rows x0) (h : fX7_trust_0 N S x0 x1 = some (r, T)) : zw (rX7_trust_0 N Sr x0 x1) (sQ rows lm u z r T) := by
  unfold fX7_trust_0 at h
  unfold rX7_trust_0
  obtain ⟨v2, S1, eS1, h⟩ := zb2_some h
  refine sc2 (sX7_isMaker hR eS1) (fun S1r hR => ?_)
  by_cases c : v2 = (0 : Int32)
  · have h := (if_pos c).symm.trans h
    refine zw.t c ?_
    cases h
    exact zw.s ⟨rfl, hR⟩
  · have h := (if_neg c).symm.trans h
    refine zw.f c ?_
    obtain ⟨v3, ev3, h⟩ := zb_some h
    have nv3 := hR.gn (by decide) ev3
    refine zw.e (hR.gr (by decide) ev3) ?_
    obtain ⟨u4, eu4, h⟩ := zb_some h
    refine zw.e (hR.rc eu4) ?_
    obtain ⟨v6, S5, eS5, h⟩ := zb2_some h
    refine sc2 (sX2_way hR nv3 eS5) (fun S5r hR => ?_)
    obtain ⟨v7, ev7, h⟩ := zb_some h
    have nv7 := hR.gn (by decide) ev7
    refine zw.e (hR.gr (by decide) ev7) ?_
    obtain ⟨v8, ev8, h⟩ := zb_some h
    refine zw.e (hR.gi (by decide) ev8) ?_
    by_cases c : (v6 &&& v8) = (0 : Int32)
    · have h := (if_pos c).symm.trans h
      refine zw.t c ?_
      exact sX7_trust_33  hR h
    · have h := (if_neg c).symm.trans h
      refine zw.f c ?_
      exact sX7_trust_33  hR h
theorem sX7_trust {N : Nat} {z : Nat} {r : Int32} {T : zS} {S : zS} {Sr : zS} {x0 : Nat} {x1 : Int32} (hR : zR rows lm u z S Sr) (nx0 : zn rows x0) (h : fX7_trust N S x0 x1 = some (r, T)) : zw (rX7_trust N Sr x0 x1) (sQ rows lm u z r T) := sX7_trust_0 hR nx0 h
set_option maxRecDepth 100000 in
set_option maxHeartbeats 4000000 in
theorem sX7_heirs_42 {N : Nat} {z : Nat} {r : Int32} {T : zS} {Kv13 : zS × Nat × Int32 × Int32 × Int32 → Option (Int32 × zS)} {K13 : zS × Nat × Int32 × Int32 × Int32 → Option (Int32 × zS)} (hK13 : ∀ (S : zS) (Sr : zS) (x0 : Nat) (x1 : Int32) (x2 : Int32) (x3 : Int32), zR rows lm u z S Sr → zn rows x0 → Kv13 (S, x0, x1, x2, x3) = some (r, T) → zw (K13 (Sr, x0, x1, x2, x3)) (sQ rows lm u z r T)) {S : zS} {Sr : zS} {x0 : Nat} {x1 : Int32} {x2 : Int32} {x3 : Int32} (hR : zR rows lm u z S Sr) (nx0 : zn rows x0) (h : fX7_heirs_42 N Kv13 S x0 x1 x2 x3 = some (r, T)) : zw (rX7_heirs_42 N K13 Sr x0 x1 x2 x3) (sQ rows lm u z r T) := by
  unfold fX7_heirs_42 at h
  unfold rX7_heirs_42
  exact hK13 _ _ _ _ _ _ hR nx0 h
set_option maxRecDepth 100000 in
set_option maxHeartbeats 4000000 in
theorem sX7_heirs_13 {N : Nat} {z : Nat} {r : Int32} {T : zS} {Kv13 : zS × Nat × Int32 × Int32 × Int32 → Option (Int32 × zS)} {K13 : zS × Nat × Int32 × Int32 × Int32 → Option (Int32 × zS)} (hK13 : ∀ (S : zS) (Sr : zS) (x0 : Nat) (x1 : Int32) (x2 : Int32) (x3 : Int32), zR rows lm u z S Sr → zn rows x0 → Kv13 (S, x0, x1, x2, x3) = some (r, T) → zw (K13 (Sr, x0, x1, x2, x3)) (sQ rows lm u z r T)) {S : zS} {Sr : zS} {x0 : Nat} {x1 : Int32} {x2 : Int32} {x3 : Int32} (hR : zR rows lm u z S Sr) (nx0 : zn rows x0) (h : fX7_heirs_13 N Kv13 S x0 x1 x2 x3 = some (r, T)) : zw (rX7_heirs_13 N K13 Sr x0 x1 x2 x3) (sQ rows lm u z r T) := by
  unfold fX7_heirs_13 at h
  unfold rX7_heirs_13
  by_cases c : (30 : Int32) ≤ x3
  · have h := (if_pos c).symm.trans h
    refine zw.t c ?_
    cases h
    exact zw.s ⟨rfl, hR⟩
  · have h := (if_neg c).symm.trans h
    refine zw.f c ?_
    by_cases c : x3 = x1
    · have h := (if_pos c).symm.trans h
      refine zw.t c ?_
      exact sX7_heirs_42 hK13  hR nx0 h
    · have h := (if_neg c).symm.trans h
      refine zw.f c ?_
      obtain ⟨v1, ev1, h⟩ := zb_some h
      have nv1 := hR.gn (by decide) ev1
      refine zw.e (hR.gr (by decide) ev1) ?_
      obtain ⟨u2, eu2, h⟩ := zb_some h
      refine zw.e (hR.rc eu2) ?_
      obtain ⟨v4, S3, eS3, h⟩ := zb2_some h
      refine sc2 (sX2_way hR nv1 eS3) (fun S3r hR => ?_)
      by_cases c : ((zush v4 x1) &&& (1 : Int32)) = (0 : Int32)
      · have h := (if_pos c).symm.trans h
        refine zw.t c ?_
        exact sX7_heirs_42 hK13  hR nx0 h
      · have h := (if_neg c).symm.trans h
        refine zw.f c ?_
        exact sX7_heirs_42 hK13  hR nx0 h
set_option maxRecDepth 100000 in
set_option maxHeartbeats 4000000 in
theorem tX7_heirs_13 {N : Nat} {z : Nat} {r : Int32} {T : zS}  {S : zS} {Sr : zS} {x0 : Nat} {x1 : Int32} {x2 : Int32} {x3 : Int32} (hR : zR rows lm u z S Sr) (nx0 : zn rows x0) (h : lX7_heirs_13 N S x0 x1 x2 x3 = some (r, T)) : zw (rlX7_heirs_13 N Sr x0 x1 x2 x3) (sQ rows lm u z r T) := by
  unfold lX7_heirs_13 at h
  unfold rlX7_heirs_13
  refine zl_sim (I := fun y y' => ∃ (S : zS) (Sr : zS) (x0 : Nat) (x1 : Int32) (x2 : Int32) (x3 : Int32), y = (S, x0, x1, x2, x3) ∧ y' = (Sr, x0, x1, x2, x3) ∧ zR rows lm u z S Sr ∧ zn rows x0) (Q := fun y' => (sQ rows lm u z r T)) ?_ N _ _ ⟨S, Sr, x0, x1, x2, x3, rfl, rfl, hR, nx0⟩ h
  rintro K K' hK y y' ⟨S, Sr, x0, x1, x2, x3, rfl, rfl, hR, nx0⟩ h
  exact sX7_heirs_13 (fun S Sr x0 x1 x2 x3 hR nx0 h => hK _ _ ⟨S, Sr, x0, x1, x2, x3, rfl, rfl, hR, nx0⟩ h) hR nx0 h
set_option maxRecDepth 100000 in
set_option maxHeartbeats 4000000 in
theorem sX7_heirs_0 {N : Nat} {z : Nat} {r : Int32} {T : zS}  {S : zS} {Sr : zS} {x0 : Nat} {x1 : Int32} (hR : zR rows lm u z S Sr) (nx0 : zn rows x0) (h : fX7_heirs_0 N S x0 x1 = some (r, T)) : zw (rX7_heirs_0 N Sr x0 x1) (sQ rows lm u z r T) := by
  unfold fX7_heirs_0 at h
  unfold rX7_heirs_0
  obtain ⟨v6, S5, eS5, h⟩ := zb2_some h
  refine sc2 (sX7_isMaker hR eS5) (fun S5r hR => ?_)
  by_cases c : v6 = (0 : Int32)
  · have h := (if_pos c).symm.trans h
    refine zw.t c ?_
    cases h
    exact zw.s ⟨rfl, hR⟩
  · have h := (if_neg c).symm.trans h
    refine zw.f c ?_
    exact tX7_heirs_13  hR nx0 h
theorem sX7_heirs {N : Nat} {z : Nat} {r : Int32} {T : zS} {S : zS} {Sr : zS} {x0 : Nat} {x1 : Int32} (hR : zR rows lm u z S Sr) (nx0 : zn rows x0) (h : fX7_heirs N S x0 x1 = some (r, T)) : zw (rX7_heirs N Sr x0 x1) (sQ rows lm u z r T) := sX7_heirs_0 hR nx0 h
set_option maxRecDepth 100000 in
set_option maxHeartbeats 4000000 in
theorem sX7_count_0 {N : Nat} {z : Nat} {r : Int32} {T : zS}  {S : zS} {Sr : zS} {x0 : Nat} {x1 : Int32} (hR : zR rows lm u z S Sr) (nx0 : zn rows x0) (h : fX7_count_0 N S x0 x1 = some (r, T)) : zw (rX7_count_0 N Sr x0 x1) (sQ rows lm u z r T) := by
  unfold fX7_count_0 at h
  unfold rX7_count_0
  by_cases c0 : x1 = (0 : Int32)
  · have h := (if_pos c0).symm.trans h
    refine zw.t c0 ?_
    obtain ⟨v1, ev1, h⟩ := zb_some h
    have nv1 := hR.gn (by decide) ev1
    refine zw.e (hR.gr (by decide) ev1) ?_
    obtain ⟨v2, ev2, h⟩ := zb_some h
    refine zw.e (hR.gi (by decide) ev2) ?_
    cases h
    exact zw.s ⟨rfl, hR⟩
  have h := (if_neg c0).symm.trans h
  refine zw.f c0 ?_
  by_cases c1 : x1 = (1 : Int32)
  · have h := (if_pos c1).symm.trans h
    refine zw.t c1 ?_
    obtain ⟨v3, ev3, h⟩ := zb_some h
    have nv3 := hR.gn (by decide) ev3
    refine zw.e (hR.gr (by decide) ev3) ?_
    obtain ⟨v4, ev4, h⟩ := zb_some h
    refine zw.e (hR.gi (by decide) ev4) ?_
    cases h
    exact zw.s ⟨rfl, hR⟩
  have h := (if_neg c1).symm.trans h
  refine zw.f c1 ?_
  by_cases c2 : x1 = (2 : Int32)
  · have h := (if_pos c2).symm.trans h
    refine zw.t c2 ?_
    obtain ⟨v5, ev5, h⟩ := zb_some h
    have nv5 := hR.gn (by decide) ev5
    refine zw.e (hR.gr (by decide) ev5) ?_
    obtain ⟨u6, eu6, h⟩ := zb_some h
    refine zw.e (hR.rc eu6) ?_
    obtain ⟨v8, S7, eS7, h⟩ := zb2_some h
    refine sc2 (sX2_seeds hR nv5 eS7) (fun S7r hR => ?_)
    cases h
    exact zw.s ⟨rfl, hR⟩
  have h := (if_neg c2).symm.trans h
  refine zw.f c2 ?_
  by_cases c3 : x1 = (3 : Int32)
  · have h := (if_pos c3).symm.trans h
    refine zw.t c3 ?_
    obtain ⟨v9, ev9, h⟩ := zb_some h
    have nv9 := hR.gn (by decide) ev9
    refine zw.e (hR.gr (by decide) ev9) ?_
    obtain ⟨v10, ev10, h⟩ := zb_some h
    refine zw.e (hR.gi (by decide) ev10) ?_
    obtain ⟨v12, S11, eS11, h⟩ := zb2_some h
    refine sc2 (sJ6_bitCount_0f7a4 hR eS11) (fun S11r hR => ?_)
    cases h
    exact zw.s ⟨rfl, hR⟩
  have h := (if_neg c3).symm.trans h
  refine zw.f c3 ?_
  by_cases c4 : x1 = (4 : Int32)
  · have h := (if_pos c4).symm.trans h
    refine zw.t c4 ?_
    obtain ⟨v13, ev13, h⟩ := zb_some h
    have nv13 := hR.gn (by decide) ev13
    refine zw.e (hR.gr (by decide) ev13) ?_
    obtain ⟨v14, ev14, h⟩ := zb_some h
    have nv14 := hR.gn (by decide) ev14
    refine zw.e (hR.gr (by decide) ev14) ?_
    obtain ⟨v15, ev15, h⟩ := zb_some h
    refine zw.e (hR.gz ev15) ?_
    cases h
    exact zw.s ⟨rfl, hR⟩
  have h := (if_neg c4).symm.trans h
  refine zw.f c4 ?_
  by_cases c5 : x1 = (5 : Int32)
  · have h := (if_pos c5).symm.trans h
    refine zw.t c5 ?_
    obtain ⟨v16, ev16, h⟩ := zb_some h
    have nv16 := hR.gn (by decide) ev16
    refine zw.e (hR.gr (by decide) ev16) ?_
    obtain ⟨v17, ev17, h⟩ := zb_some h
    refine zw.e (hR.gi (by decide) ev17) ?_
    obtain ⟨v19, S18, eS18, h⟩ := zb2_some h
    refine sc2 (sJ6_bitCount_0f7a4 hR eS18) (fun S18r hR => ?_)
    cases h
    exact zw.s ⟨rfl, hR⟩
  have h := (if_neg c5).symm.trans h
  refine zw.f c5 ?_
  cases h
  exact zw.s ⟨rfl, hR⟩
theorem sX7_count {N : Nat} {z : Nat} {r : Int32} {T : zS} {S : zS} {Sr : zS} {x0 : Nat} {x1 : Int32} (hR : zR rows lm u z S Sr) (nx0 : zn rows x0) (h : fX7_count N S x0 x1 = some (r, T)) : zw (rX7_count N Sr x0 x1) (sQ rows lm u z r T) := sX7_count_0 hR nx0 h
end
