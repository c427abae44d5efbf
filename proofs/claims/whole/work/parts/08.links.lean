def zb2 {α β γ : Type} (o : Option (α × β)) (F : α → β → Option γ) : Option γ := o.bind fun q => F q.1 q.2
def zb3 {α β γ δ : Type} (o : Option (α × β × γ)) (F : α → β → γ → Option δ) : Option δ := o.bind fun q => F q.1 q.2.1 q.2.2
theorem zb2_some {α β γ : Type} {o : Option (α × β)} {F : α → β → Option γ} {x : γ} (h : zb2 o F = some x) : ∃ v w, o = some (v, w) ∧ F v w = some x := by
  cases o with
  | none => cases h
  | some q => exact ⟨q.1, q.2, rfl, h⟩
theorem zb3_some {α β γ δ : Type} {o : Option (α × β × γ)} {F : α → β → γ → Option δ} {x : δ} (h : zb3 o F = some x) : ∃ v w u, o = some (v, w, u) ∧ F v w u = some x := by
  cases o with
  | none => cases h
  | some q => exact ⟨q.1, q.2.1, q.2.2, rfl, h⟩
theorem inX0_0 : u_lay RX0 TX0 0 ∈ ztb := ztb_in (List.mem_of_getElem? (i := 225) (by decide +kernel)) rfl
theorem inX0_1 : u_lay RX0 TX0 1 ∈ ztb := ztb_in (List.mem_of_getElem? (i := 227) (by decide +kernel)) rfl
theorem inX0_2 : u_lay RX0 TX0 2 ∈ ztb := ztb_in (List.mem_of_getElem? (i := 229) (by decide +kernel)) rfl
theorem inX0_3 : u_lay RX0 TX0 3 ∈ ztb := ztb_in (List.mem_of_getElem? (i := 231) (by decide +kernel)) rfl
theorem inX0_4 : u_lay RX0 TX0 4 ∈ ztb := ztb_in (List.mem_of_getElem? (i := 233) (by decide +kernel)) rfl
theorem inX0_5 : u_lay RX0 TX0 5 ∈ ztb := ztb_in (List.mem_of_getElem? (i := 235) (by decide +kernel)) rfl
theorem inX0_6 : u_lay RX0 TX0 6 ∈ ztb := ztb_in (List.mem_of_getElem? (i := 237) (by decide +kernel)) rfl
theorem inX0 : ∀ w ∈ u_ws RX0 TX0 7, w ∈ ztb := by
  intro w hw
  obtain ⟨k, hk, rfl⟩ := List.mem_map.mp hw
  have hk := List.mem_range.mp hk
  match k, hk with
  | 0, _ => exact inX0_0
  | 1, _ => exact inX0_1
  | 2, _ => exact inX0_2
  | 3, _ => exact inX0_3
  | 4, _ => exact inX0_4
  | 5, _ => exact inX0_5
  | 6, _ => exact inX0_6
  | k + 7, hk => omega
theorem inX1_0 : u_lay RX1 TX1 0 ∈ ztb := ztb_in (List.mem_of_getElem? (i := 192) (by decide +kernel)) rfl
theorem inX1_1 : u_lay RX1 TX1 1 ∈ ztb := ztb_in (List.mem_of_getElem? (i := 194) (by decide +kernel)) rfl
theorem inX1_2 : u_lay RX1 TX1 2 ∈ ztb := ztb_in (List.mem_of_getElem? (i := 196) (by decide +kernel)) rfl
theorem inX1_3 : u_lay RX1 TX1 3 ∈ ztb := ztb_in (List.mem_of_getElem? (i := 198) (by decide +kernel)) rfl
theorem inX1_4 : u_lay RX1 TX1 4 ∈ ztb := ztb_in (List.mem_of_getElem? (i := 200) (by decide +kernel)) rfl
theorem inX1_5 : u_lay RX1 TX1 5 ∈ ztb := ztb_in (List.mem_of_getElem? (i := 202) (by decide +kernel)) rfl
theorem inX1_6 : u_lay RX1 TX1 6 ∈ ztb := ztb_in (List.mem_of_getElem? (i := 204) (by decide +kernel)) rfl
theorem inX1 : ∀ w ∈ u_ws RX1 TX1 7, w ∈ ztb := by
  intro w hw
  obtain ⟨k, hk, rfl⟩ := List.mem_map.mp hw
  have hk := List.mem_range.mp hk
  match k, hk with
  | 0, _ => exact inX1_0
  | 1, _ => exact inX1_1
  | 2, _ => exact inX1_2
  | 3, _ => exact inX1_3
  | 4, _ => exact inX1_4
  | 5, _ => exact inX1_5
  | 6, _ => exact inX1_6
  | k + 7, hk => omega
theorem inX2_0 : u_lay RX2 TX2 0 ∈ ztb := ztb_in (List.mem_of_getElem? (i := 271) (by decide +kernel)) rfl
theorem inX2_1 : u_lay RX2 TX2 1 ∈ ztb := ztb_in (List.mem_of_getElem? (i := 273) (by decide +kernel)) rfl
theorem inX2_2 : u_lay RX2 TX2 2 ∈ ztb := ztb_in (List.mem_of_getElem? (i := 275) (by decide +kernel)) rfl
theorem inX2 : ∀ w ∈ u_ws RX2 TX2 3, w ∈ ztb := by
  intro w hw
  obtain ⟨k, hk, rfl⟩ := List.mem_map.mp hw
  have hk := List.mem_range.mp hk
  match k, hk with
  | 0, _ => exact inX2_0
  | 1, _ => exact inX2_1
  | 2, _ => exact inX2_2
  | k + 3, hk => omega
theorem inX3_0 : u_lay RX3 TX3 0 ∈ ztb := ztb_in (List.mem_of_getElem? (i := 249) (by decide +kernel)) rfl
theorem inX3_1 : u_lay RX3 TX3 1 ∈ ztb := ztb_in (List.mem_of_getElem? (i := 251) (by decide +kernel)) rfl
theorem inX3_2 : u_lay RX3 TX3 2 ∈ ztb := ztb_in (List.mem_of_getElem? (i := 253) (by decide +kernel)) rfl
theorem inX3 : ∀ w ∈ u_ws RX3 TX3 3, w ∈ ztb := by
  intro w hw
  obtain ⟨k, hk, rfl⟩ := List.mem_map.mp hw
  have hk := List.mem_range.mp hk
  match k, hk with
  | 0, _ => exact inX3_0
  | 1, _ => exact inX3_1
  | 2, _ => exact inX3_2
  | k + 3, hk => omega
theorem inX4_0 : u_lay RX4 TX4 0 ∈ ztb := ztb_in (List.mem_of_getElem? (i := 152) (by decide +kernel)) rfl
theorem inX4_1 : u_lay RX4 TX4 1 ∈ ztb := ztb_in (List.mem_of_getElem? (i := 154) (by decide +kernel)) rfl
theorem inX4_2 : u_lay RX4 TX4 2 ∈ ztb := ztb_in (List.mem_of_getElem? (i := 156) (by decide +kernel)) rfl
theorem inX4_3 : u_lay RX4 TX4 3 ∈ ztb := ztb_in (List.mem_of_getElem? (i := 158) (by decide +kernel)) rfl
theorem inX4_4 : u_lay RX4 TX4 4 ∈ ztb := ztb_in (List.mem_of_getElem? (i := 160) (by decide +kernel)) rfl
theorem inX4_5 : u_lay RX4 TX4 5 ∈ ztb := ztb_in (List.mem_of_getElem? (i := 162) (by decide +kernel)) rfl
theorem inX4_6 : u_lay RX4 TX4 6 ∈ ztb := ztb_in (List.mem_of_getElem? (i := 164) (by decide +kernel)) rfl
theorem inX4_7 : u_lay RX4 TX4 7 ∈ ztb := ztb_in (List.mem_of_getElem? (i := 166) (by decide +kernel)) rfl
theorem inX4_8 : u_lay RX4 TX4 8 ∈ ztb := ztb_in (List.mem_of_getElem? (i := 168) (by decide +kernel)) rfl
theorem inX4_9 : u_lay RX4 TX4 9 ∈ ztb := ztb_in (List.mem_of_getElem? (i := 170) (by decide +kernel)) rfl
theorem inX4 : ∀ w ∈ u_ws RX4 TX4 10, w ∈ ztb := by
  intro w hw
  obtain ⟨k, hk, rfl⟩ := List.mem_map.mp hw
  have hk := List.mem_range.mp hk
  match k, hk with
  | 0, _ => exact inX4_0
  | 1, _ => exact inX4_1
  | 2, _ => exact inX4_2
  | 3, _ => exact inX4_3
  | 4, _ => exact inX4_4
  | 5, _ => exact inX4_5
  | 6, _ => exact inX4_6
  | 7, _ => exact inX4_7
  | 8, _ => exact inX4_8
  | 9, _ => exact inX4_9
  | k + 10, hk => omega
theorem inX5_0 : u_lay RX5 TX5 0 ∈ ztb := ztb_in (List.mem_of_getElem? (i := 97) (by decide +kernel)) rfl
theorem inX5_1 : u_lay RX5 TX5 1 ∈ ztb := ztb_in (List.mem_of_getElem? (i := 99) (by decide +kernel)) rfl
theorem inX5_2 : u_lay RX5 TX5 2 ∈ ztb := ztb_in (List.mem_of_getElem? (i := 101) (by decide +kernel)) rfl
theorem inX5 : ∀ w ∈ u_ws RX5 TX5 3, w ∈ ztb := by
  intro w hw
  obtain ⟨k, hk, rfl⟩ := List.mem_map.mp hw
  have hk := List.mem_range.mp hk
  match k, hk with
  | 0, _ => exact inX5_0
  | 1, _ => exact inX5_1
  | 2, _ => exact inX5_2
  | k + 3, hk => omega
theorem inX6_0 : u_lay RX6 TX6 0 ∈ ztb := ztb_in (List.mem_of_getElem? (i := 113) (by decide +kernel)) rfl
theorem inX6_1 : u_lay RX6 TX6 1 ∈ ztb := ztb_in (List.mem_of_getElem? (i := 115) (by decide +kernel)) rfl
theorem inX6_2 : u_lay RX6 TX6 2 ∈ ztb := ztb_in (List.mem_of_getElem? (i := 117) (by decide +kernel)) rfl
theorem inX6_3 : u_lay RX6 TX6 3 ∈ ztb := ztb_in (List.mem_of_getElem? (i := 119) (by decide +kernel)) rfl
theorem inX6 : ∀ w ∈ u_ws RX6 TX6 4, w ∈ ztb := by
  intro w hw
  obtain ⟨k, hk, rfl⟩ := List.mem_map.mp hw
  have hk := List.mem_range.mp hk
  match k, hk with
  | 0, _ => exact inX6_0
  | 1, _ => exact inX6_1
  | 2, _ => exact inX6_2
  | 3, _ => exact inX6_3
  | k + 4, hk => omega
theorem inX7_0 : u_lay RX7 TX7 0 ∈ ztb := ztb_in (List.mem_of_getElem? (i := 286) (by decide +kernel)) rfl
theorem inX7_1 : u_lay RX7 TX7 1 ∈ ztb := ztb_in (List.mem_of_getElem? (i := 288) (by decide +kernel)) rfl
theorem inX7_2 : u_lay RX7 TX7 2 ∈ ztb := ztb_in (List.mem_of_getElem? (i := 290) (by decide +kernel)) rfl
theorem inX7_3 : u_lay RX7 TX7 3 ∈ ztb := ztb_in (List.mem_of_getElem? (i := 292) (by decide +kernel)) rfl
theorem inX7_4 : u_lay RX7 TX7 4 ∈ ztb := ztb_in (List.mem_of_getElem? (i := 294) (by decide +kernel)) rfl
theorem inX7_5 : u_lay RX7 TX7 5 ∈ ztb := ztb_in (List.mem_of_getElem? (i := 296) (by decide +kernel)) rfl
theorem inX7_6 : u_lay RX7 TX7 6 ∈ ztb := ztb_in (List.mem_of_getElem? (i := 298) (by decide +kernel)) rfl
theorem inX7_7 : u_lay RX7 TX7 7 ∈ ztb := ztb_in (List.mem_of_getElem? (i := 300) (by decide +kernel)) rfl
theorem inX7 : ∀ w ∈ u_ws RX7 TX7 8, w ∈ ztb := by
  intro w hw
  obtain ⟨k, hk, rfl⟩ := List.mem_map.mp hw
  have hk := List.mem_range.mp hk
  match k, hk with
  | 0, _ => exact inX7_0
  | 1, _ => exact inX7_1
  | 2, _ => exact inX7_2
  | 3, _ => exact inX7_3
  | 4, _ => exact inX7_4
  | 5, _ => exact inX7_5
  | 6, _ => exact inX7_6
  | 7, _ => exact inX7_7
  | k + 8, hk => omega
theorem inX8_0 : u_lay RX8 TX8 0 ∈ ztb := ztb_in (List.mem_of_getElem? (i := 707) (by decide +kernel)) rfl
theorem inX8_1 : u_lay RX8 TX8 1 ∈ ztb := ztb_in (List.mem_of_getElem? (i := 709) (by decide +kernel)) rfl
theorem inX8_2 : u_lay RX8 TX8 2 ∈ ztb := ztb_in (List.mem_of_getElem? (i := 711) (by decide +kernel)) rfl
theorem inX8_3 : u_lay RX8 TX8 3 ∈ ztb := ztb_in (List.mem_of_getElem? (i := 713) (by decide +kernel)) rfl
theorem inX8_4 : u_lay RX8 TX8 4 ∈ ztb := ztb_in (List.mem_of_getElem? (i := 715) (by decide +kernel)) rfl
theorem inX8_5 : u_lay RX8 TX8 5 ∈ ztb := ztb_in (List.mem_of_getElem? (i := 717) (by decide +kernel)) rfl
theorem inX8_6 : u_lay RX8 TX8 6 ∈ ztb := ztb_in (List.mem_of_getElem? (i := 719) (by decide +kernel)) rfl
theorem inX8_7 : u_lay RX8 TX8 7 ∈ ztb := ztb_in (List.mem_of_getElem? (i := 721) (by decide +kernel)) rfl
theorem inX8_8 : u_lay RX8 TX8 8 ∈ ztb := ztb_in (List.mem_of_getElem? (i := 723) (by decide +kernel)) rfl
theorem inX8_9 : u_lay RX8 TX8 9 ∈ ztb := ztb_in (List.mem_of_getElem? (i := 725) (by decide +kernel)) rfl
theorem inX8_10 : u_lay RX8 TX8 10 ∈ ztb := ztb_in (List.mem_of_getElem? (i := 727) (by decide +kernel)) rfl
theorem inX8_11 : u_lay RX8 TX8 11 ∈ ztb := ztb_in (List.mem_of_getElem? (i := 729) (by decide +kernel)) rfl
theorem inX8_12 : u_lay RX8 TX8 12 ∈ ztb := ztb_in (List.mem_of_getElem? (i := 731) (by decide +kernel)) rfl
theorem inX8_13 : u_lay RX8 TX8 13 ∈ ztb := ztb_in (List.mem_of_getElem? (i := 733) (by decide +kernel)) rfl
theorem inX8_14 : u_lay RX8 TX8 14 ∈ ztb := ztb_in (List.mem_of_getElem? (i := 735) (by decide +kernel)) rfl
theorem inX8_15 : u_lay RX8 TX8 15 ∈ ztb := ztb_in (List.mem_of_getElem? (i := 737) (by decide +kernel)) rfl
theorem inX8_16 : u_lay RX8 TX8 16 ∈ ztb := ztb_in (List.mem_of_getElem? (i := 739) (by decide +kernel)) rfl
theorem inX8_17 : u_lay RX8 TX8 17 ∈ ztb := ztb_in (List.mem_of_getElem? (i := 741) (by decide +kernel)) rfl
theorem inX8_18 : u_lay RX8 TX8 18 ∈ ztb := ztb_in (List.mem_of_getElem? (i := 743) (by decide +kernel)) rfl
theorem inX8_19 : u_lay RX8 TX8 19 ∈ ztb := ztb_in (List.mem_of_getElem? (i := 745) (by decide +kernel)) rfl
theorem inX8_20 : u_lay RX8 TX8 20 ∈ ztb := ztb_in (List.mem_of_getElem? (i := 747) (by decide +kernel)) rfl
theorem inX8_21 : u_lay RX8 TX8 21 ∈ ztb := ztb_in (List.mem_of_getElem? (i := 749) (by decide +kernel)) rfl
theorem inX8_22 : u_lay RX8 TX8 22 ∈ ztb := ztb_in (List.mem_of_getElem? (i := 751) (by decide +kernel)) rfl
theorem inX8_23 : u_lay RX8 TX8 23 ∈ ztb := ztb_in (List.mem_of_getElem? (i := 753) (by decide +kernel)) rfl
theorem inX8_24 : u_lay RX8 TX8 24 ∈ ztb := ztb_in (List.mem_of_getElem? (i := 755) (by decide +kernel)) rfl
theorem inX8_25 : u_lay RX8 TX8 25 ∈ ztb := ztb_in (List.mem_of_getElem? (i := 757) (by decide +kernel)) rfl
theorem inX8_26 : u_lay RX8 TX8 26 ∈ ztb := ztb_in (List.mem_of_getElem? (i := 759) (by decide +kernel)) rfl
theorem inX8_27 : u_lay RX8 TX8 27 ∈ ztb := ztb_in (List.mem_of_getElem? (i := 761) (by decide +kernel)) rfl
theorem inX8_28 : u_lay RX8 TX8 28 ∈ ztb := ztb_in (List.mem_of_getElem? (i := 763) (by decide +kernel)) rfl
theorem inX8_29 : u_lay RX8 TX8 29 ∈ ztb := ztb_in (List.mem_of_getElem? (i := 765) (by decide +kernel)) rfl
theorem inX8_30 : u_lay RX8 TX8 30 ∈ ztb := ztb_in (List.mem_of_getElem? (i := 767) (by decide +kernel)) rfl
theorem inX8_31 : u_lay RX8 TX8 31 ∈ ztb := ztb_in (List.mem_of_getElem? (i := 769) (by decide +kernel)) rfl
theorem inX8_32 : u_lay RX8 TX8 32 ∈ ztb := ztb_in (List.mem_of_getElem? (i := 771) (by decide +kernel)) rfl
theorem inX8 : ∀ w ∈ u_ws RX8 TX8 33, w ∈ ztb := by
  intro w hw
  obtain ⟨k, hk, rfl⟩ := List.mem_map.mp hw
  have hk := List.mem_range.mp hk
  match k, hk with
  | 0, _ => exact inX8_0
  | 1, _ => exact inX8_1
  | 2, _ => exact inX8_2
  | 3, _ => exact inX8_3
  | 4, _ => exact inX8_4
  | 5, _ => exact inX8_5
  | 6, _ => exact inX8_6
  | 7, _ => exact inX8_7
  | 8, _ => exact inX8_8
  | 9, _ => exact inX8_9
  | 10, _ => exact inX8_10
  | 11, _ => exact inX8_11
  | 12, _ => exact inX8_12
  | 13, _ => exact inX8_13
  | 14, _ => exact inX8_14
  | 15, _ => exact inX8_15
  | 16, _ => exact inX8_16
  | 17, _ => exact inX8_17
  | 18, _ => exact inX8_18
  | 19, _ => exact inX8_19
  | 20, _ => exact inX8_20
  | 21, _ => exact inX8_21
  | 22, _ => exact inX8_22
  | 23, _ => exact inX8_23
  | 24, _ => exact inX8_24
  | 25, _ => exact inX8_25
  | 26, _ => exact inX8_26
  | 27, _ => exact inX8_27
  | 28, _ => exact inX8_28
  | 29, _ => exact inX8_29
  | 30, _ => exact inX8_30
  | 31, _ => exact inX8_31
  | 32, _ => exact inX8_32
  | k + 33, hk => omega
theorem flX0_9 : zFL RX0 9 0 0 true := ⟨RX0, TX0, 7, rfl, inX0, by decide, rfl, by decide, rfl, Or.inl (ztb_in (List.mem_of_getElem? (i := 214) (by decide +kernel)) rfl)⟩
theorem flX0_15 : zFL RX0 15 0 1 true := ⟨RX0, TX0, 7, rfl, inX0, by decide, rfl, by decide, rfl, Or.inl (ztb_in (List.mem_of_getElem? (i := 216) (by decide +kernel)) rfl)⟩
theorem flX0_18 : zFL RX0 18 0 2 true := ⟨RX0, TX0, 7, rfl, inX0, by decide, rfl, by decide, rfl, Or.inl (ztb_in (List.mem_of_getElem? (i := 218) (by decide +kernel)) rfl)⟩
theorem flX0_21 : zFL RX0 21 0 3 true := ⟨RX0, TX0, 7, rfl, inX0, by decide, rfl, by decide, rfl, Or.inl (ztb_in (List.mem_of_getElem? (i := 220) (by decide +kernel)) rfl)⟩
theorem flX0_24 : zFL RX0 24 0 4 true := ⟨RX0, TX0, 7, rfl, inX0, by decide, rfl, by decide, rfl, Or.inl (ztb_in (List.mem_of_getElem? (i := 221) (by decide +kernel)) rfl)⟩
theorem flX0_27 : zFL RX0 27 0 5 true := ⟨RX0, TX0, 7, rfl, inX0, by decide, rfl, by decide, rfl, Or.inl (ztb_in (List.mem_of_getElem? (i := 222) (by decide +kernel)) rfl)⟩
theorem flX0_41 : zFL RX0 41 5 2 false := ⟨RX5, TX5, 3, rfl, inX5, by decide, rfl, by decide, rfl, Or.inr ⟨"BuiltTwice", ztb_in (List.mem_of_getElem? (i := 95) (by decide +kernel)) rfl⟩⟩
theorem flX0_53 : zFL RX0 53 5 1 true := ⟨RX5, TX5, 3, rfl, inX5, by decide, rfl, by decide, rfl, Or.inr ⟨"BuiltTwice", ztb_in (List.mem_of_getElem? (i := 89) (by decide +kernel)) rfl⟩⟩
theorem flX0_60 : zFL RX0 60 0 6 false := ⟨RX0, TX0, 7, rfl, inX0, by decide, rfl, by decide, rfl, Or.inl (ztb_in (List.mem_of_getElem? (i := 223) (by decide +kernel)) rfl)⟩
theorem flX1_9 : zFL RX1 9 1 2 true := ⟨RX1, TX1, 7, rfl, inX1, by decide, rfl, by decide, rfl, Or.inl (ztb_in (List.mem_of_getElem? (i := 185) (by decide +kernel)) rfl)⟩
theorem flX1_17 : zFL RX1 17 1 3 true := ⟨RX1, TX1, 7, rfl, inX1, by decide, rfl, by decide, rfl, Or.inl (ztb_in (List.mem_of_getElem? (i := 186) (by decide +kernel)) rfl)⟩
theorem flX1_21 : zFL RX1 21 1 4 true := ⟨RX1, TX1, 7, rfl, inX1, by decide, rfl, by decide, rfl, Or.inl (ztb_in (List.mem_of_getElem? (i := 188) (by decide +kernel)) rfl)⟩
theorem flX1_25 : zFL RX1 25 1 5 true := ⟨RX1, TX1, 7, rfl, inX1, by decide, rfl, by decide, rfl, Or.inl (ztb_in (List.mem_of_getElem? (i := 190) (by decide +kernel)) rfl)⟩
theorem flX1_28 : zFL RX1 28 1 0 true := ⟨RX1, TX1, 7, rfl, inX1, by decide, rfl, by decide, rfl, Or.inl (ztb_in (List.mem_of_getElem? (i := 183) (by decide +kernel)) rfl)⟩
theorem flX1_32 : zFL RX1 32 1 1 true := ⟨RX1, TX1, 7, rfl, inX1, by decide, rfl, by decide, rfl, Or.inl (ztb_in (List.mem_of_getElem? (i := 184) (by decide +kernel)) rfl)⟩
theorem flX1_45 : zFL RX1 45 1 6 false := ⟨RX1, TX1, 7, rfl, inX1, by decide, rfl, by decide, rfl, Or.inl (ztb_in (List.mem_of_getElem? (i := 191) (by decide +kernel)) rfl)⟩
theorem flX1_53 : zFL RX1 53 4 5 true := ⟨RX4, TX4, 10, rfl, inX4, by decide, rfl, by decide, rfl, Or.inr ⟨"BuiltTwice", ztb_in (List.mem_of_getElem? (i := 140) (by decide +kernel)) rfl⟩⟩
theorem flX1_65 : zFL RX1 65 4 8 false := ⟨RX4, TX4, 10, rfl, inX4, by decide, rfl, by decide, rfl, Or.inr ⟨"BuiltTwice", ztb_in (List.mem_of_getElem? (i := 148) (by decide +kernel)) rfl⟩⟩
theorem flX1_68 : zFL RX1 68 5 2 false := ⟨RX5, TX5, 3, rfl, inX5, by decide, rfl, by decide, rfl, Or.inr ⟨"BuiltTwice", ztb_in (List.mem_of_getElem? (i := 96) (by decide +kernel)) rfl⟩⟩
theorem flX1_80 : zFL RX1 80 4 4 true := ⟨RX4, TX4, 10, rfl, inX4, by decide, rfl, by decide, rfl, Or.inr ⟨"BuiltTwice", ztb_in (List.mem_of_getElem? (i := 137) (by decide +kernel)) rfl⟩⟩
theorem flX1_87 : zFL RX1 87 6 3 false := ⟨RX6, TX6, 4, rfl, inX6, by decide, rfl, by decide, rfl, Or.inr ⟨"BuiltTwice", ztb_in (List.mem_of_getElem? (i := 112) (by decide +kernel)) rfl⟩⟩
theorem flX1_92 : zFL RX1 92 6 1 true := ⟨RX6, TX6, 4, rfl, inX6, by decide, rfl, by decide, rfl, Or.inr ⟨"BuiltTwice", ztb_in (List.mem_of_getElem? (i := 109) (by decide +kernel)) rfl⟩⟩
theorem flX1_95 : zFL RX1 95 4 0 true := ⟨RX4, TX4, 10, rfl, inX4, by decide, rfl, by decide, rfl, Or.inr ⟨"BuiltTwice", ztb_in (List.mem_of_getElem? (i := 129) (by decide +kernel)) rfl⟩⟩
theorem flX1_98 : zFL RX1 98 4 1 true := ⟨RX4, TX4, 10, rfl, inX4, by decide, rfl, by decide, rfl, Or.inr ⟨"BuiltTwice", ztb_in (List.mem_of_getElem? (i := 131) (by decide +kernel)) rfl⟩⟩
theorem flX1_101 : zFL RX1 101 4 2 true := ⟨RX4, TX4, 10, rfl, inX4, by decide, rfl, by decide, rfl, Or.inr ⟨"BuiltTwice", ztb_in (List.mem_of_getElem? (i := 133) (by decide +kernel)) rfl⟩⟩
theorem flX1_133 : zFL RX1 133 5 1 true := ⟨RX5, TX5, 3, rfl, inX5, by decide, rfl, by decide, rfl, Or.inr ⟨"BuiltTwice", ztb_in (List.mem_of_getElem? (i := 90) (by decide +kernel)) rfl⟩⟩
theorem flX2_9 : zFL RX2 9 2 0 true := ⟨RX2, TX2, 3, rfl, inX2, by decide, rfl, by decide, rfl, Or.inl (ztb_in (List.mem_of_getElem? (i := 266) (by decide +kernel)) rfl)⟩
theorem flX2_15 : zFL RX2 15 2 1 true := ⟨RX2, TX2, 3, rfl, inX2, by decide, rfl, by decide, rfl, Or.inl (ztb_in (List.mem_of_getElem? (i := 268) (by decide +kernel)) rfl)⟩
theorem flX3_9 : zFL RX3 9 3 0 true := ⟨RX3, TX3, 3, rfl, inX3, by decide, rfl, by decide, rfl, Or.inl (ztb_in (List.mem_of_getElem? (i := 246) (by decide +kernel)) rfl)⟩
theorem flX3_15 : zFL RX3 15 3 1 true := ⟨RX3, TX3, 3, rfl, inX3, by decide, rfl, by decide, rfl, Or.inl (ztb_in (List.mem_of_getElem? (i := 247) (by decide +kernel)) rfl)⟩
theorem flX3_19 : zFL RX3 19 3 2 true := ⟨RX3, TX3, 3, rfl, inX3, by decide, rfl, by decide, rfl, Or.inl (ztb_in (List.mem_of_getElem? (i := 248) (by decide +kernel)) rfl)⟩
theorem flX3_36 : zFL RX3 36 4 5 true := ⟨RX4, TX4, 10, rfl, inX4, by decide, rfl, by decide, rfl, Or.inr ⟨"BuiltTwice", ztb_in (List.mem_of_getElem? (i := 141) (by decide +kernel)) rfl⟩⟩
theorem flX3_44 : zFL RX3 44 4 4 true := ⟨RX4, TX4, 10, rfl, inX4, by decide, rfl, by decide, rfl, Or.inr ⟨"BuiltTwice", ztb_in (List.mem_of_getElem? (i := 136) (by decide +kernel)) rfl⟩⟩
theorem flX4_9 : zFL RX4 9 4 0 true := ⟨RX4, TX4, 10, rfl, inX4, by decide, rfl, by decide, rfl, Or.inl (ztb_in (List.mem_of_getElem? (i := 128) (by decide +kernel)) rfl)⟩
theorem flX4_15 : zFL RX4 15 4 1 true := ⟨RX4, TX4, 10, rfl, inX4, by decide, rfl, by decide, rfl, Or.inl (ztb_in (List.mem_of_getElem? (i := 130) (by decide +kernel)) rfl)⟩
theorem flX4_18 : zFL RX4 18 4 2 true := ⟨RX4, TX4, 10, rfl, inX4, by decide, rfl, by decide, rfl, Or.inl (ztb_in (List.mem_of_getElem? (i := 132) (by decide +kernel)) rfl)⟩
theorem flX4_21 : zFL RX4 21 4 3 true := ⟨RX4, TX4, 10, rfl, inX4, by decide, rfl, by decide, rfl, Or.inl (ztb_in (List.mem_of_getElem? (i := 134) (by decide +kernel)) rfl)⟩
theorem flX4_24 : zFL RX4 24 4 4 true := ⟨RX4, TX4, 10, rfl, inX4, by decide, rfl, by decide, rfl, Or.inl (ztb_in (List.mem_of_getElem? (i := 135) (by decide +kernel)) rfl)⟩
theorem flX4_27 : zFL RX4 27 4 5 true := ⟨RX4, TX4, 10, rfl, inX4, by decide, rfl, by decide, rfl, Or.inl (ztb_in (List.mem_of_getElem? (i := 139) (by decide +kernel)) rfl)⟩
theorem flX4_30 : zFL RX4 30 4 6 true := ⟨RX4, TX4, 10, rfl, inX4, by decide, rfl, by decide, rfl, Or.inl (ztb_in (List.mem_of_getElem? (i := 143) (by decide +kernel)) rfl)⟩
theorem flX4_33 : zFL RX4 33 4 7 true := ⟨RX4, TX4, 10, rfl, inX4, by decide, rfl, by decide, rfl, Or.inl (ztb_in (List.mem_of_getElem? (i := 145) (by decide +kernel)) rfl)⟩
theorem flX4_36 : zFL RX4 36 4 8 false := ⟨RX4, TX4, 10, rfl, inX4, by decide, rfl, by decide, rfl, Or.inl (ztb_in (List.mem_of_getElem? (i := 147) (by decide +kernel)) rfl)⟩
theorem flX4_44 : zFL RX4 44 4 9 false := ⟨RX4, TX4, 10, rfl, inX4, by decide, rfl, by decide, rfl, Or.inl (ztb_in (List.mem_of_getElem? (i := 150) (by decide +kernel)) rfl)⟩
theorem flX5_7 : zFL RX5 7 5 1 true := ⟨RX5, TX5, 3, rfl, inX5, by decide, rfl, by decide, rfl, Or.inl (ztb_in (List.mem_of_getElem? (i := 88) (by decide +kernel)) rfl)⟩
theorem flX5_19 : zFL RX5 19 5 0 false := ⟨RX5, TX5, 3, rfl, inX5, by decide, rfl, by decide, rfl, Or.inl (ztb_in (List.mem_of_getElem? (i := 87) (by decide +kernel)) rfl)⟩
theorem flX5_27 : zFL RX5 27 5 2 false := ⟨RX5, TX5, 3, rfl, inX5, by decide, rfl, by decide, rfl, Or.inl (ztb_in (List.mem_of_getElem? (i := 93) (by decide +kernel)) rfl)⟩
theorem flX6_14 : zFL RX6 14 6 0 true := ⟨RX6, TX6, 4, rfl, inX6, by decide, rfl, by decide, rfl, Or.inl (ztb_in (List.mem_of_getElem? (i := 106) (by decide +kernel)) rfl)⟩
theorem flX6_20 : zFL RX6 20 6 1 true := ⟨RX6, TX6, 4, rfl, inX6, by decide, rfl, by decide, rfl, Or.inl (ztb_in (List.mem_of_getElem? (i := 108) (by decide +kernel)) rfl)⟩
theorem flX6_24 : zFL RX6 24 5 2 false := ⟨RX5, TX5, 3, rfl, inX5, by decide, rfl, by decide, rfl, Or.inr ⟨"BuiltTwice", ztb_in (List.mem_of_getElem? (i := 92) (by decide +kernel)) rfl⟩⟩
theorem flX7_10 : zFL RX7 10 7 0 true := ⟨RX7, TX7, 8, rfl, inX7, by decide, rfl, by decide, rfl, Or.inl (ztb_in (List.mem_of_getElem? (i := 278) (by decide +kernel)) rfl)⟩
theorem flX7_19 : zFL RX7 19 7 1 true := ⟨RX7, TX7, 8, rfl, inX7, by decide, rfl, by decide, rfl, Or.inl (ztb_in (List.mem_of_getElem? (i := 279) (by decide +kernel)) rfl)⟩
theorem flX7_25 : zFL RX7 25 7 2 true := ⟨RX7, TX7, 8, rfl, inX7, by decide, rfl, by decide, rfl, Or.inl (ztb_in (List.mem_of_getElem? (i := 280) (by decide +kernel)) rfl)⟩
theorem flX7_33 : zFL RX7 33 7 3 true := ⟨RX7, TX7, 8, rfl, inX7, by decide, rfl, by decide, rfl, Or.inl (ztb_in (List.mem_of_getElem? (i := 281) (by decide +kernel)) rfl)⟩
theorem flX7_37 : zFL RX7 37 7 4 true := ⟨RX7, TX7, 8, rfl, inX7, by decide, rfl, by decide, rfl, Or.inl (ztb_in (List.mem_of_getElem? (i := 282) (by decide +kernel)) rfl)⟩
theorem flX7_43 : zFL RX7 43 7 5 true := ⟨RX7, TX7, 8, rfl, inX7, by decide, rfl, by decide, rfl, Or.inl (ztb_in (List.mem_of_getElem? (i := 283) (by decide +kernel)) rfl)⟩
theorem flX7_50 : zFL RX7 50 7 6 true := ⟨RX7, TX7, 8, rfl, inX7, by decide, rfl, by decide, rfl, Or.inl (ztb_in (List.mem_of_getElem? (i := 284) (by decide +kernel)) rfl)⟩
theorem flX7_57 : zFL RX7 57 7 7 true := ⟨RX7, TX7, 8, rfl, inX7, by decide, rfl, by decide, rfl, Or.inl (ztb_in (List.mem_of_getElem? (i := 285) (by decide +kernel)) rfl)⟩
theorem flX7_61 : zFL RX7 61 6 0 true := ⟨RX6, TX6, 4, rfl, inX6, by decide, rfl, by decide, rfl, Or.inr ⟨"BuiltTwice", ztb_in (List.mem_of_getElem? (i := 107) (by decide +kernel)) rfl⟩⟩
theorem flX7_65 : zFL RX7 65 5 2 false := ⟨RX5, TX5, 3, rfl, inX5, by decide, rfl, by decide, rfl, Or.inr ⟨"BuiltTwice", ztb_in (List.mem_of_getElem? (i := 94) (by decide +kernel)) rfl⟩⟩
theorem flX7_75 : zFL RX7 75 6 2 false := ⟨RX6, TX6, 4, rfl, inX6, by decide, rfl, by decide, rfl, Or.inr ⟨"BuiltTwice", ztb_in (List.mem_of_getElem? (i := 110) (by decide +kernel)) rfl⟩⟩
theorem flX7_86 : zFL RX7 86 6 3 false := ⟨RX6, TX6, 4, rfl, inX6, by decide, rfl, by decide, rfl, Or.inr ⟨"BuiltTwice", ztb_in (List.mem_of_getElem? (i := 111) (by decide +kernel)) rfl⟩⟩
theorem flX7_118 : zFL RX7 118 4 8 false := ⟨RX4, TX4, 10, rfl, inX4, by decide, rfl, by decide, rfl, Or.inr ⟨"BuiltTwice", ztb_in (List.mem_of_getElem? (i := 149) (by decide +kernel)) rfl⟩⟩
theorem flX7_128 : zFL RX7 128 4 9 false := ⟨RX4, TX4, 10, rfl, inX4, by decide, rfl, by decide, rfl, Or.inr ⟨"BuiltTwice", ztb_in (List.mem_of_getElem? (i := 151) (by decide +kernel)) rfl⟩⟩
theorem flX7_131 : zFL RX7 131 4 4 true := ⟨RX4, TX4, 10, rfl, inX4, by decide, rfl, by decide, rfl, Or.inr ⟨"BuiltTwice", ztb_in (List.mem_of_getElem? (i := 138) (by decide +kernel)) rfl⟩⟩
theorem flX7_142 : zFL RX7 142 1 4 true := ⟨RX1, TX1, 7, rfl, inX1, by decide, rfl, by decide, rfl, Or.inr ⟨"BuiltTwice", ztb_in (List.mem_of_getElem? (i := 189) (by decide +kernel)) rfl⟩⟩
theorem flX7_146 : zFL RX7 146 1 3 true := ⟨RX1, TX1, 7, rfl, inX1, by decide, rfl, by decide, rfl, Or.inr ⟨"BuiltTwice", ztb_in (List.mem_of_getElem? (i := 187) (by decide +kernel)) rfl⟩⟩
theorem flX7_150 : zFL RX7 150 5 1 true := ⟨RX5, TX5, 3, rfl, inX5, by decide, rfl, by decide, rfl, Or.inr ⟨"BuiltTwice", ztb_in (List.mem_of_getElem? (i := 91) (by decide +kernel)) rfl⟩⟩
theorem flX7_153 : zFL RX7 153 4 5 true := ⟨RX4, TX4, 10, rfl, inX4, by decide, rfl, by decide, rfl, Or.inr ⟨"BuiltTwice", ztb_in (List.mem_of_getElem? (i := 142) (by decide +kernel)) rfl⟩⟩
theorem flX7_159 : zFL RX7 159 4 6 true := ⟨RX4, TX4, 10, rfl, inX4, by decide, rfl, by decide, rfl, Or.inr ⟨"BuiltTwice", ztb_in (List.mem_of_getElem? (i := 144) (by decide +kernel)) rfl⟩⟩
theorem flX7_189 : zFL RX7 189 0 6 false := ⟨RX0, TX0, 7, rfl, inX0, by decide, rfl, by decide, rfl, Or.inr ⟨"BuiltTwice", ztb_in (List.mem_of_getElem? (i := 224) (by decide +kernel)) rfl⟩⟩
theorem flX7_190 : zFL RX7 190 0 0 true := ⟨RX0, TX0, 7, rfl, inX0, by decide, rfl, by decide, rfl, Or.inr ⟨"BuiltTwice", ztb_in (List.mem_of_getElem? (i := 215) (by decide +kernel)) rfl⟩⟩
theorem flX7_193 : zFL RX7 193 0 1 true := ⟨RX0, TX0, 7, rfl, inX0, by decide, rfl, by decide, rfl, Or.inr ⟨"BuiltTwice", ztb_in (List.mem_of_getElem? (i := 217) (by decide +kernel)) rfl⟩⟩
theorem flX7_196 : zFL RX7 196 0 2 true := ⟨RX0, TX0, 7, rfl, inX0, by decide, rfl, by decide, rfl, Or.inr ⟨"BuiltTwice", ztb_in (List.mem_of_getElem? (i := 219) (by decide +kernel)) rfl⟩⟩
theorem flX7_199 : zFL RX7 199 4 7 true := ⟨RX4, TX4, 10, rfl, inX4, by decide, rfl, by decide, rfl, Or.inr ⟨"BuiltTwice", ztb_in (List.mem_of_getElem? (i := 146) (by decide +kernel)) rfl⟩⟩
theorem flX7_220 : zFL RX7 220 2 0 true := ⟨RX2, TX2, 3, rfl, inX2, by decide, rfl, by decide, rfl, Or.inr ⟨"BuiltTwice", ztb_in (List.mem_of_getElem? (i := 267) (by decide +kernel)) rfl⟩⟩
theorem flX7_223 : zFL RX7 223 2 1 true := ⟨RX2, TX2, 3, rfl, inX2, by decide, rfl, by decide, rfl, Or.inr ⟨"BuiltTwice", ztb_in (List.mem_of_getElem? (i := 269) (by decide +kernel)) rfl⟩⟩
theorem flX7_238 : zFL RX7 238 2 2 false := ⟨RX2, TX2, 3, rfl, inX2, by decide, rfl, by decide, rfl, Or.inr ⟨"BuiltTwice", ztb_in (List.mem_of_getElem? (i := 270) (by decide +kernel)) rfl⟩⟩
theorem flX8_7 : zFL RX8 7 8 1 true := ⟨RX8, TX8, 33, rfl, inX8, by decide, rfl, by decide, rfl, Or.inl (ztb_in (List.mem_of_getElem? (i := 675) (by decide +kernel)) rfl)⟩
theorem flX8_13 : zFL RX8 13 8 4 true := ⟨RX8, TX8, 33, rfl, inX8, by decide, rfl, by decide, rfl, Or.inl (ztb_in (List.mem_of_getElem? (i := 678) (by decide +kernel)) rfl)⟩
theorem flX8_16 : zFL RX8 16 8 5 true := ⟨RX8, TX8, 33, rfl, inX8, by decide, rfl, by decide, rfl, Or.inl (ztb_in (List.mem_of_getElem? (i := 679) (by decide +kernel)) rfl)⟩
theorem flX8_19 : zFL RX8 19 8 6 true := ⟨RX8, TX8, 33, rfl, inX8, by decide, rfl, by decide, rfl, Or.inl (ztb_in (List.mem_of_getElem? (i := 680) (by decide +kernel)) rfl)⟩
theorem flX8_23 : zFL RX8 23 8 7 true := ⟨RX8, TX8, 33, rfl, inX8, by decide, rfl, by decide, rfl, Or.inl (ztb_in (List.mem_of_getElem? (i := 681) (by decide +kernel)) rfl)⟩
theorem flX8_26 : zFL RX8 26 8 9 true := ⟨RX8, TX8, 33, rfl, inX8, by decide, rfl, by decide, rfl, Or.inl (ztb_in (List.mem_of_getElem? (i := 683) (by decide +kernel)) rfl)⟩
theorem flX8_29 : zFL RX8 29 8 10 true := ⟨RX8, TX8, 33, rfl, inX8, by decide, rfl, by decide, rfl, Or.inl (ztb_in (List.mem_of_getElem? (i := 684) (by decide +kernel)) rfl)⟩
theorem flX8_32 : zFL RX8 32 8 11 true := ⟨RX8, TX8, 33, rfl, inX8, by decide, rfl, by decide, rfl, Or.inl (ztb_in (List.mem_of_getElem? (i := 685) (by decide +kernel)) rfl)⟩
theorem flX8_35 : zFL RX8 35 8 12 true := ⟨RX8, TX8, 33, rfl, inX8, by decide, rfl, by decide, rfl, Or.inl (ztb_in (List.mem_of_getElem? (i := 686) (by decide +kernel)) rfl)⟩
theorem flX8_38 : zFL RX8 38 8 13 true := ⟨RX8, TX8, 33, rfl, inX8, by decide, rfl, by decide, rfl, Or.inl (ztb_in (List.mem_of_getElem? (i := 687) (by decide +kernel)) rfl)⟩
theorem flX8_41 : zFL RX8 41 8 14 true := ⟨RX8, TX8, 33, rfl, inX8, by decide, rfl, by decide, rfl, Or.inl (ztb_in (List.mem_of_getElem? (i := 688) (by decide +kernel)) rfl)⟩
theorem flX8_44 : zFL RX8 44 8 15 true := ⟨RX8, TX8, 33, rfl, inX8, by decide, rfl, by decide, rfl, Or.inl (ztb_in (List.mem_of_getElem? (i := 689) (by decide +kernel)) rfl)⟩
theorem flX8_47 : zFL RX8 47 8 16 true := ⟨RX8, TX8, 33, rfl, inX8, by decide, rfl, by decide, rfl, Or.inl (ztb_in (List.mem_of_getElem? (i := 690) (by decide +kernel)) rfl)⟩
theorem flX8_50 : zFL RX8 50 8 17 true := ⟨RX8, TX8, 33, rfl, inX8, by decide, rfl, by decide, rfl, Or.inl (ztb_in (List.mem_of_getElem? (i := 691) (by decide +kernel)) rfl)⟩
theorem flX8_53 : zFL RX8 53 8 19 true := ⟨RX8, TX8, 33, rfl, inX8, by decide, rfl, by decide, rfl, Or.inl (ztb_in (List.mem_of_getElem? (i := 693) (by decide +kernel)) rfl)⟩
theorem flX8_56 : zFL RX8 56 8 20 true := ⟨RX8, TX8, 33, rfl, inX8, by decide, rfl, by decide, rfl, Or.inl (ztb_in (List.mem_of_getElem? (i := 694) (by decide +kernel)) rfl)⟩
theorem flX8_59 : zFL RX8 59 8 21 true := ⟨RX8, TX8, 33, rfl, inX8, by decide, rfl, by decide, rfl, Or.inl (ztb_in (List.mem_of_getElem? (i := 695) (by decide +kernel)) rfl)⟩
theorem flX8_63 : zFL RX8 63 8 22 true := ⟨RX8, TX8, 33, rfl, inX8, by decide, rfl, by decide, rfl, Or.inl (ztb_in (List.mem_of_getElem? (i := 696) (by decide +kernel)) rfl)⟩
theorem flX8_68 : zFL RX8 68 8 23 true := ⟨RX8, TX8, 33, rfl, inX8, by decide, rfl, by decide, rfl, Or.inl (ztb_in (List.mem_of_getElem? (i := 697) (by decide +kernel)) rfl)⟩
theorem flX8_71 : zFL RX8 71 8 25 true := ⟨RX8, TX8, 33, rfl, inX8, by decide, rfl, by decide, rfl, Or.inl (ztb_in (List.mem_of_getElem? (i := 699) (by decide +kernel)) rfl)⟩
theorem flX8_74 : zFL RX8 74 8 26 true := ⟨RX8, TX8, 33, rfl, inX8, by decide, rfl, by decide, rfl, Or.inl (ztb_in (List.mem_of_getElem? (i := 700) (by decide +kernel)) rfl)⟩
theorem flX8_77 : zFL RX8 77 8 27 true := ⟨RX8, TX8, 33, rfl, inX8, by decide, rfl, by decide, rfl, Or.inl (ztb_in (List.mem_of_getElem? (i := 701) (by decide +kernel)) rfl)⟩
theorem flX8_80 : zFL RX8 80 8 28 true := ⟨RX8, TX8, 33, rfl, inX8, by decide, rfl, by decide, rfl, Or.inl (ztb_in (List.mem_of_getElem? (i := 702) (by decide +kernel)) rfl)⟩
theorem flX8_83 : zFL RX8 83 8 29 true := ⟨RX8, TX8, 33, rfl, inX8, by decide, rfl, by decide, rfl, Or.inl (ztb_in (List.mem_of_getElem? (i := 703) (by decide +kernel)) rfl)⟩
theorem flX8_86 : zFL RX8 86 8 30 true := ⟨RX8, TX8, 33, rfl, inX8, by decide, rfl, by decide, rfl, Or.inl (ztb_in (List.mem_of_getElem? (i := 704) (by decide +kernel)) rfl)⟩
theorem flX8_89 : zFL RX8 89 8 31 true := ⟨RX8, TX8, 33, rfl, inX8, by decide, rfl, by decide, rfl, Or.inl (ztb_in (List.mem_of_getElem? (i := 705) (by decide +kernel)) rfl)⟩
theorem flX8_92 : zFL RX8 92 8 32 true := ⟨RX8, TX8, 33, rfl, inX8, by decide, rfl, by decide, rfl, Or.inl (ztb_in (List.mem_of_getElem? (i := 706) (by decide +kernel)) rfl)⟩
theorem flX8_103 : zFL RX8 103 8 2 false := ⟨RX8, TX8, 33, rfl, inX8, by decide, rfl, by decide, rfl, Or.inl (ztb_in (List.mem_of_getElem? (i := 676) (by decide +kernel)) rfl)⟩
theorem flX8_106 : zFL RX8 106 8 3 false := ⟨RX8, TX8, 33, rfl, inX8, by decide, rfl, by decide, rfl, Or.inl (ztb_in (List.mem_of_getElem? (i := 677) (by decide +kernel)) rfl)⟩
theorem flX8_113 : zFL RX8 113 8 8 false := ⟨RX8, TX8, 33, rfl, inX8, by decide, rfl, by decide, rfl, Or.inl (ztb_in (List.mem_of_getElem? (i := 682) (by decide +kernel)) rfl)⟩
theorem flX8_133 : zFL RX8 133 8 18 false := ⟨RX8, TX8, 33, rfl, inX8, by decide, rfl, by decide, rfl, Or.inl (ztb_in (List.mem_of_getElem? (i := 692) (by decide +kernel)) rfl)⟩
theorem flX8_202 : zFL RX8 202 8 24 false := ⟨RX8, TX8, 33, rfl, inX8, by decide, rfl, by decide, rfl, Or.inl (ztb_in (List.mem_of_getElem? (i := 698) (by decide +kernel)) rfl)⟩
theorem fqX0_9 : Cond.fieldLink RX0 9 (TX0 0).1 (TX0 0).2.1 (TX0 0).2.2.1 ∈ ztb := ztb_in (List.mem_of_getElem? (i := 214) (by decide +kernel)) rfl
theorem fqX0_15 : Cond.fieldLink RX0 15 (TX0 1).1 (TX0 1).2.1 (TX0 1).2.2.1 ∈ ztb := ztb_in (List.mem_of_getElem? (i := 216) (by decide +kernel)) rfl
theorem fqX0_18 : Cond.fieldLink RX0 18 (TX0 2).1 (TX0 2).2.1 (TX0 2).2.2.1 ∈ ztb := ztb_in (List.mem_of_getElem? (i := 218) (by decide +kernel)) rfl
theorem fqX0_21 : Cond.fieldLink RX0 21 (TX0 3).1 (TX0 3).2.1 (TX0 3).2.2.1 ∈ ztb := ztb_in (List.mem_of_getElem? (i := 220) (by decide +kernel)) rfl
theorem fqX1_9 : Cond.fieldLink RX1 9 (TX1 2).1 (TX1 2).2.1 (TX1 2).2.2.1 ∈ ztb := ztb_in (List.mem_of_getElem? (i := 185) (by decide +kernel)) rfl
theorem fqX1_17 : Cond.fieldLink RX1 17 (TX1 3).1 (TX1 3).2.1 (TX1 3).2.2.1 ∈ ztb := ztb_in (List.mem_of_getElem? (i := 186) (by decide +kernel)) rfl
theorem fqX1_21 : Cond.fieldLink RX1 21 (TX1 4).1 (TX1 4).2.1 (TX1 4).2.2.1 ∈ ztb := ztb_in (List.mem_of_getElem? (i := 188) (by decide +kernel)) rfl
theorem fqX1_25 : Cond.fieldLink RX1 25 (TX1 5).1 (TX1 5).2.1 (TX1 5).2.2.1 ∈ ztb := ztb_in (List.mem_of_getElem? (i := 190) (by decide +kernel)) rfl
theorem fqX1_28 : Cond.fieldLink RX1 28 (TX1 0).1 (TX1 0).2.1 (TX1 0).2.2.1 ∈ ztb := ztb_in (List.mem_of_getElem? (i := 183) (by decide +kernel)) rfl
theorem fqX1_32 : Cond.fieldLink RX1 32 (TX1 1).1 (TX1 1).2.1 (TX1 1).2.2.1 ∈ ztb := ztb_in (List.mem_of_getElem? (i := 184) (by decide +kernel)) rfl
theorem fqX2_9 : Cond.fieldLink RX2 9 (TX2 0).1 (TX2 0).2.1 (TX2 0).2.2.1 ∈ ztb := ztb_in (List.mem_of_getElem? (i := 266) (by decide +kernel)) rfl
theorem fqX2_15 : Cond.fieldLink RX2 15 (TX2 1).1 (TX2 1).2.1 (TX2 1).2.2.1 ∈ ztb := ztb_in (List.mem_of_getElem? (i := 268) (by decide +kernel)) rfl
theorem fqX3_15 : Cond.fieldLink RX3 15 (TX3 1).1 (TX3 1).2.1 (TX3 1).2.2.1 ∈ ztb := ztb_in (List.mem_of_getElem? (i := 247) (by decide +kernel)) rfl
theorem fqX3_19 : Cond.fieldLink RX3 19 (TX3 2).1 (TX3 2).2.1 (TX3 2).2.2.1 ∈ ztb := ztb_in (List.mem_of_getElem? (i := 248) (by decide +kernel)) rfl
theorem fqX4_9 : Cond.fieldLink RX4 9 (TX4 0).1 (TX4 0).2.1 (TX4 0).2.2.1 ∈ ztb := ztb_in (List.mem_of_getElem? (i := 128) (by decide +kernel)) rfl
theorem fqX4_15 : Cond.fieldLink RX4 15 (TX4 1).1 (TX4 1).2.1 (TX4 1).2.2.1 ∈ ztb := ztb_in (List.mem_of_getElem? (i := 130) (by decide +kernel)) rfl
theorem fqX4_18 : Cond.fieldLink RX4 18 (TX4 2).1 (TX4 2).2.1 (TX4 2).2.2.1 ∈ ztb := ztb_in (List.mem_of_getElem? (i := 132) (by decide +kernel)) rfl
theorem fqX4_21 : Cond.fieldLink RX4 21 (TX4 3).1 (TX4 3).2.1 (TX4 3).2.2.1 ∈ ztb := ztb_in (List.mem_of_getElem? (i := 134) (by decide +kernel)) rfl
theorem fqX4_24 : Cond.fieldLink RX4 24 (TX4 4).1 (TX4 4).2.1 (TX4 4).2.2.1 ∈ ztb := ztb_in (List.mem_of_getElem? (i := 135) (by decide +kernel)) rfl
theorem fqX4_27 : Cond.fieldLink RX4 27 (TX4 5).1 (TX4 5).2.1 (TX4 5).2.2.1 ∈ ztb := ztb_in (List.mem_of_getElem? (i := 139) (by decide +kernel)) rfl
theorem fqX4_30 : Cond.fieldLink RX4 30 (TX4 6).1 (TX4 6).2.1 (TX4 6).2.2.1 ∈ ztb := ztb_in (List.mem_of_getElem? (i := 143) (by decide +kernel)) rfl
theorem fqX4_33 : Cond.fieldLink RX4 33 (TX4 7).1 (TX4 7).2.1 (TX4 7).2.2.1 ∈ ztb := ztb_in (List.mem_of_getElem? (i := 145) (by decide +kernel)) rfl
theorem fqX5_19 : Cond.fieldLink RX5 19 (TX5 0).1 (TX5 0).2.1 (TX5 0).2.2.1 ∈ ztb := ztb_in (List.mem_of_getElem? (i := 87) (by decide +kernel)) rfl
theorem fqX6_14 : Cond.fieldLink RX6 14 (TX6 0).1 (TX6 0).2.1 (TX6 0).2.2.1 ∈ ztb := ztb_in (List.mem_of_getElem? (i := 106) (by decide +kernel)) rfl
theorem fqX6_20 : Cond.fieldLink RX6 20 (TX6 1).1 (TX6 1).2.1 (TX6 1).2.2.1 ∈ ztb := ztb_in (List.mem_of_getElem? (i := 108) (by decide +kernel)) rfl
theorem fqX7_10 : Cond.fieldLink RX7 10 (TX7 0).1 (TX7 0).2.1 (TX7 0).2.2.1 ∈ ztb := ztb_in (List.mem_of_getElem? (i := 278) (by decide +kernel)) rfl
theorem fqX7_19 : Cond.fieldLink RX7 19 (TX7 1).1 (TX7 1).2.1 (TX7 1).2.2.1 ∈ ztb := ztb_in (List.mem_of_getElem? (i := 279) (by decide +kernel)) rfl
theorem fqX7_25 : Cond.fieldLink RX7 25 (TX7 2).1 (TX7 2).2.1 (TX7 2).2.2.1 ∈ ztb := ztb_in (List.mem_of_getElem? (i := 280) (by decide +kernel)) rfl
theorem fqX7_33 : Cond.fieldLink RX7 33 (TX7 3).1 (TX7 3).2.1 (TX7 3).2.2.1 ∈ ztb := ztb_in (List.mem_of_getElem? (i := 281) (by decide +kernel)) rfl
theorem fqX7_37 : Cond.fieldLink RX7 37 (TX7 4).1 (TX7 4).2.1 (TX7 4).2.2.1 ∈ ztb := ztb_in (List.mem_of_getElem? (i := 282) (by decide +kernel)) rfl
theorem fqX7_43 : Cond.fieldLink RX7 43 (TX7 5).1 (TX7 5).2.1 (TX7 5).2.2.1 ∈ ztb := ztb_in (List.mem_of_getElem? (i := 283) (by decide +kernel)) rfl
theorem fqX7_50 : Cond.fieldLink RX7 50 (TX7 6).1 (TX7 6).2.1 (TX7 6).2.2.1 ∈ ztb := ztb_in (List.mem_of_getElem? (i := 284) (by decide +kernel)) rfl
theorem fqX7_57 : Cond.fieldLink RX7 57 (TX7 7).1 (TX7 7).2.1 (TX7 7).2.2.1 ∈ ztb := ztb_in (List.mem_of_getElem? (i := 285) (by decide +kernel)) rfl
theorem fqX8_7 : Cond.fieldLink RX8 7 (TX8 1).1 (TX8 1).2.1 (TX8 1).2.2.1 ∈ ztb := ztb_in (List.mem_of_getElem? (i := 675) (by decide +kernel)) rfl
theorem fqX8_13 : Cond.fieldLink RX8 13 (TX8 4).1 (TX8 4).2.1 (TX8 4).2.2.1 ∈ ztb := ztb_in (List.mem_of_getElem? (i := 678) (by decide +kernel)) rfl
theorem fqX8_16 : Cond.fieldLink RX8 16 (TX8 5).1 (TX8 5).2.1 (TX8 5).2.2.1 ∈ ztb := ztb_in (List.mem_of_getElem? (i := 679) (by decide +kernel)) rfl
theorem fqX8_19 : Cond.fieldLink RX8 19 (TX8 6).1 (TX8 6).2.1 (TX8 6).2.2.1 ∈ ztb := ztb_in (List.mem_of_getElem? (i := 680) (by decide +kernel)) rfl
theorem fqX8_23 : Cond.fieldLink RX8 23 (TX8 7).1 (TX8 7).2.1 (TX8 7).2.2.1 ∈ ztb := ztb_in (List.mem_of_getElem? (i := 681) (by decide +kernel)) rfl
theorem fqX8_26 : Cond.fieldLink RX8 26 (TX8 9).1 (TX8 9).2.1 (TX8 9).2.2.1 ∈ ztb := ztb_in (List.mem_of_getElem? (i := 683) (by decide +kernel)) rfl
theorem fqX8_29 : Cond.fieldLink RX8 29 (TX8 10).1 (TX8 10).2.1 (TX8 10).2.2.1 ∈ ztb := ztb_in (List.mem_of_getElem? (i := 684) (by decide +kernel)) rfl
theorem fqX8_32 : Cond.fieldLink RX8 32 (TX8 11).1 (TX8 11).2.1 (TX8 11).2.2.1 ∈ ztb := ztb_in (List.mem_of_getElem? (i := 685) (by decide +kernel)) rfl
theorem fqX8_35 : Cond.fieldLink RX8 35 (TX8 12).1 (TX8 12).2.1 (TX8 12).2.2.1 ∈ ztb := ztb_in (List.mem_of_getElem? (i := 686) (by decide +kernel)) rfl
theorem fqX8_38 : Cond.fieldLink RX8 38 (TX8 13).1 (TX8 13).2.1 (TX8 13).2.2.1 ∈ ztb := ztb_in (List.mem_of_getElem? (i := 687) (by decide +kernel)) rfl
theorem fqX8_41 : Cond.fieldLink RX8 41 (TX8 14).1 (TX8 14).2.1 (TX8 14).2.2.1 ∈ ztb := ztb_in (List.mem_of_getElem? (i := 688) (by decide +kernel)) rfl
theorem fqX8_44 : Cond.fieldLink RX8 44 (TX8 15).1 (TX8 15).2.1 (TX8 15).2.2.1 ∈ ztb := ztb_in (List.mem_of_getElem? (i := 689) (by decide +kernel)) rfl
theorem fqX8_47 : Cond.fieldLink RX8 47 (TX8 16).1 (TX8 16).2.1 (TX8 16).2.2.1 ∈ ztb := ztb_in (List.mem_of_getElem? (i := 690) (by decide +kernel)) rfl
theorem fqX8_50 : Cond.fieldLink RX8 50 (TX8 17).1 (TX8 17).2.1 (TX8 17).2.2.1 ∈ ztb := ztb_in (List.mem_of_getElem? (i := 691) (by decide +kernel)) rfl
theorem fqX8_53 : Cond.fieldLink RX8 53 (TX8 19).1 (TX8 19).2.1 (TX8 19).2.2.1 ∈ ztb := ztb_in (List.mem_of_getElem? (i := 693) (by decide +kernel)) rfl
theorem fqX8_56 : Cond.fieldLink RX8 56 (TX8 20).1 (TX8 20).2.1 (TX8 20).2.2.1 ∈ ztb := ztb_in (List.mem_of_getElem? (i := 694) (by decide +kernel)) rfl
theorem fqX8_59 : Cond.fieldLink RX8 59 (TX8 21).1 (TX8 21).2.1 (TX8 21).2.2.1 ∈ ztb := ztb_in (List.mem_of_getElem? (i := 695) (by decide +kernel)) rfl
theorem fqX8_63 : Cond.fieldLink RX8 63 (TX8 22).1 (TX8 22).2.1 (TX8 22).2.2.1 ∈ ztb := ztb_in (List.mem_of_getElem? (i := 696) (by decide +kernel)) rfl
theorem fqX8_68 : Cond.fieldLink RX8 68 (TX8 23).1 (TX8 23).2.1 (TX8 23).2.2.1 ∈ ztb := ztb_in (List.mem_of_getElem? (i := 697) (by decide +kernel)) rfl
theorem fqX8_71 : Cond.fieldLink RX8 71 (TX8 25).1 (TX8 25).2.1 (TX8 25).2.2.1 ∈ ztb := ztb_in (List.mem_of_getElem? (i := 699) (by decide +kernel)) rfl
theorem fqX8_74 : Cond.fieldLink RX8 74 (TX8 26).1 (TX8 26).2.1 (TX8 26).2.2.1 ∈ ztb := ztb_in (List.mem_of_getElem? (i := 700) (by decide +kernel)) rfl
theorem fqX8_77 : Cond.fieldLink RX8 77 (TX8 27).1 (TX8 27).2.1 (TX8 27).2.2.1 ∈ ztb := ztb_in (List.mem_of_getElem? (i := 701) (by decide +kernel)) rfl
theorem fqX8_80 : Cond.fieldLink RX8 80 (TX8 28).1 (TX8 28).2.1 (TX8 28).2.2.1 ∈ ztb := ztb_in (List.mem_of_getElem? (i := 702) (by decide +kernel)) rfl
theorem fqX8_83 : Cond.fieldLink RX8 83 (TX8 29).1 (TX8 29).2.1 (TX8 29).2.2.1 ∈ ztb := ztb_in (List.mem_of_getElem? (i := 703) (by decide +kernel)) rfl
theorem fqX8_86 : Cond.fieldLink RX8 86 (TX8 30).1 (TX8 30).2.1 (TX8 30).2.2.1 ∈ ztb := ztb_in (List.mem_of_getElem? (i := 704) (by decide +kernel)) rfl
theorem fqX8_89 : Cond.fieldLink RX8 89 (TX8 31).1 (TX8 31).2.1 (TX8 31).2.2.1 ∈ ztb := ztb_in (List.mem_of_getElem? (i := 705) (by decide +kernel)) rfl
theorem fqX8_92 : Cond.fieldLink RX8 92 (TX8 32).1 (TX8 32).2.1 (TX8 32).2.2.1 ∈ ztb := ztb_in (List.mem_of_getElem? (i := 706) (by decide +kernel)) rfl
theorem fpX0_0 : zFP 0 0 true (.array .int) := ⟨RX0, TX0, 7, tyX0, rfl, tyX0_ok, nmX0, rfl, rfl, rfl⟩
theorem fpX0_1 : zFP 0 1 true (.array .int) := ⟨RX0, TX0, 7, tyX0, rfl, tyX0_ok, nmX0, rfl, rfl, rfl⟩
theorem fpX0_2 : zFP 0 2 true (.array .int) := ⟨RX0, TX0, 7, tyX0, rfl, tyX0_ok, nmX0, rfl, rfl, rfl⟩
theorem fpX0_3 : zFP 0 3 true (.array .int) := ⟨RX0, TX0, 7, tyX0, rfl, tyX0_ok, nmX0, rfl, rfl, rfl⟩
theorem fpX0_4 : zFP 0 4 false (.array .int) := ⟨RX0, TX0, 7, tyX0, rfl, tyX0_ok, nmX0, rfl, rfl, rfl⟩
theorem fpX0_5 : zFP 0 5 false (.array .int) := ⟨RX0, TX0, 7, tyX0, rfl, tyX0_ok, nmX0, rfl, rfl, rfl⟩
theorem fpX0_6 : zFP 0 6 false .int := ⟨RX0, TX0, 7, tyX0, rfl, tyX0_ok, nmX0, rfl, rfl, rfl⟩
theorem fpX1_0 : zFP 1 0 true (.object "BuiltTwice$Plan") := ⟨RX1, TX1, 7, tyX1, rfl, tyX1_ok, nmX1, rfl, rfl, rfl⟩
theorem fpX1_1 : zFP 1 1 true (.object "BuiltTwice$Texts") := ⟨RX1, TX1, 7, tyX1, rfl, tyX1_ok, nmX1, rfl, rfl, rfl⟩
theorem fpX1_2 : zFP 1 2 true (.array .int) := ⟨RX1, TX1, 7, tyX1, rfl, tyX1_ok, nmX1, rfl, rfl, rfl⟩
theorem fpX1_3 : zFP 1 3 true (.array (.object "BuiltTwice$Row")) := ⟨RX1, TX1, 7, tyX1, rfl, tyX1_ok, nmX1, rfl, rfl, rfl⟩
theorem fpX1_4 : zFP 1 4 true (.array .boolean) := ⟨RX1, TX1, 7, tyX1, rfl, tyX1_ok, nmX1, rfl, rfl, rfl⟩
theorem fpX1_5 : zFP 1 5 true (.array .int) := ⟨RX1, TX1, 7, tyX1, rfl, tyX1_ok, nmX1, rfl, rfl, rfl⟩
theorem fpX1_6 : zFP 1 6 false .int := ⟨RX1, TX1, 7, tyX1, rfl, tyX1_ok, nmX1, rfl, rfl, rfl⟩
theorem fpX2_0 : zFP 2 0 true (.array .int) := ⟨RX2, TX2, 3, tyX2, rfl, tyX2_ok, nmX2, rfl, rfl, rfl⟩
theorem fpX2_1 : zFP 2 1 true (.array .int) := ⟨RX2, TX2, 3, tyX2, rfl, tyX2_ok, nmX2, rfl, rfl, rfl⟩
theorem fpX2_2 : zFP 2 2 false .int := ⟨RX2, TX2, 3, tyX2, rfl, tyX2_ok, nmX2, rfl, rfl, rfl⟩
theorem fpX3_0 : zFP 3 0 false (.array .long) := ⟨RX3, TX3, 3, tyX3, rfl, tyX3_ok, nmX3, rfl, rfl, rfl⟩
theorem fpX3_1 : zFP 3 1 true (.array .int) := ⟨RX3, TX3, 3, tyX3, rfl, tyX3_ok, nmX3, rfl, rfl, rfl⟩
theorem fpX3_2 : zFP 3 2 true (.array .int) := ⟨RX3, TX3, 3, tyX3, rfl, tyX3_ok, nmX3, rfl, rfl, rfl⟩
theorem fpX4_0 : zFP 4 0 true (.array .int) := ⟨RX4, TX4, 10, tyX4, rfl, tyX4_ok, nmX4, rfl, rfl, rfl⟩
theorem fpX4_1 : zFP 4 1 true (.array .int) := ⟨RX4, TX4, 10, tyX4, rfl, tyX4_ok, nmX4, rfl, rfl, rfl⟩
theorem fpX4_2 : zFP 4 2 true (.array .int) := ⟨RX4, TX4, 10, tyX4, rfl, tyX4_ok, nmX4, rfl, rfl, rfl⟩
theorem fpX4_3 : zFP 4 3 true (.array .int) := ⟨RX4, TX4, 10, tyX4, rfl, tyX4_ok, nmX4, rfl, rfl, rfl⟩
theorem fpX4_4 : zFP 4 4 true (.array .int) := ⟨RX4, TX4, 10, tyX4, rfl, tyX4_ok, nmX4, rfl, rfl, rfl⟩
theorem fpX4_5 : zFP 4 5 true (.array .int) := ⟨RX4, TX4, 10, tyX4, rfl, tyX4_ok, nmX4, rfl, rfl, rfl⟩
theorem fpX4_6 : zFP 4 6 true (.array .int) := ⟨RX4, TX4, 10, tyX4, rfl, tyX4_ok, nmX4, rfl, rfl, rfl⟩
theorem fpX4_7 : zFP 4 7 true (.array .int) := ⟨RX4, TX4, 10, tyX4, rfl, tyX4_ok, nmX4, rfl, rfl, rfl⟩
theorem fpX4_8 : zFP 4 8 false .int := ⟨RX4, TX4, 10, tyX4, rfl, tyX4_ok, nmX4, rfl, rfl, rfl⟩
theorem fpX4_9 : zFP 4 9 false .int := ⟨RX4, TX4, 10, tyX4, rfl, tyX4_ok, nmX4, rfl, rfl, rfl⟩
theorem fpX5_0 : zFP 5 0 true .int := ⟨RX5, TX5, 3, tyX5, rfl, tyX5_ok, nmX5, rfl, rfl, rfl⟩
theorem fpX5_1 : zFP 5 1 false (.array .int) := ⟨RX5, TX5, 3, tyX5, rfl, tyX5_ok, nmX5, rfl, rfl, rfl⟩
theorem fpX5_2 : zFP 5 2 false .int := ⟨RX5, TX5, 3, tyX5, rfl, tyX5_ok, nmX5, rfl, rfl, rfl⟩
theorem fpX6_0 : zFP 6 0 true (.object "BuiltTwice$Row") := ⟨RX6, TX6, 4, tyX6, rfl, tyX6_ok, nmX6, rfl, rfl, rfl⟩
theorem fpX6_1 : zFP 6 1 true (.array (.object "BuiltTwice$Row")) := ⟨RX6, TX6, 4, tyX6, rfl, tyX6_ok, nmX6, rfl, rfl, rfl⟩
theorem fpX6_2 : zFP 6 2 false .int := ⟨RX6, TX6, 4, tyX6, rfl, tyX6_ok, nmX6, rfl, rfl, rfl⟩
theorem fpX6_3 : zFP 6 3 false .int := ⟨RX6, TX6, 4, tyX6, rfl, tyX6_ok, nmX6, rfl, rfl, rfl⟩
theorem fpX7_0 : zFP 7 0 true (.object "BuiltTwice$Texts") := ⟨RX7, TX7, 8, tyX7, rfl, tyX7_ok, nmX7, rfl, rfl, rfl⟩
theorem fpX7_1 : zFP 7 1 true (.object "BuiltTwice$Plan") := ⟨RX7, TX7, 8, tyX7, rfl, tyX7_ok, nmX7, rfl, rfl, rfl⟩
theorem fpX7_2 : zFP 7 2 true (.array (.array .int)) := ⟨RX7, TX7, 8, tyX7, rfl, tyX7_ok, nmX7, rfl, rfl, rfl⟩
theorem fpX7_3 : zFP 7 3 true (.object "BuiltTwice$Build") := ⟨RX7, TX7, 8, tyX7, rfl, tyX7_ok, nmX7, rfl, rfl, rfl⟩
theorem fpX7_4 : zFP 7 4 true (.object "BuiltTwice$Build") := ⟨RX7, TX7, 8, tyX7, rfl, tyX7_ok, nmX7, rfl, rfl, rfl⟩
theorem fpX7_5 : zFP 7 5 true (.object "BuiltTwice$Alignment") := ⟨RX7, TX7, 8, tyX7, rfl, tyX7_ok, nmX7, rfl, rfl, rfl⟩
theorem fpX7_6 : zFP 7 6 true (.object "BuiltTwice$OrderTable") := ⟨RX7, TX7, 8, tyX7, rfl, tyX7_ok, nmX7, rfl, rfl, rfl⟩
theorem fpX7_7 : zFP 7 7 true (.object "BuiltTwice$Makers") := ⟨RX7, TX7, 8, tyX7, rfl, tyX7_ok, nmX7, rfl, rfl, rfl⟩
theorem fpX8_1 : zFP 8 1 true (.array .int) := ⟨RX8, TX8, 33, tyX8, rfl, tyX8_ok, nmX8, rfl, rfl, rfl⟩
theorem fpX8_2 : zFP 8 2 false .int := ⟨RX8, TX8, 33, tyX8, rfl, tyX8_ok, nmX8, rfl, rfl, rfl⟩
theorem fpX8_3 : zFP 8 3 false .int := ⟨RX8, TX8, 33, tyX8, rfl, tyX8_ok, nmX8, rfl, rfl, rfl⟩
theorem fpX8_4 : zFP 8 4 true (.array .int) := ⟨RX8, TX8, 33, tyX8, rfl, tyX8_ok, nmX8, rfl, rfl, rfl⟩
theorem fpX8_5 : zFP 8 5 true (.array .int) := ⟨RX8, TX8, 33, tyX8, rfl, tyX8_ok, nmX8, rfl, rfl, rfl⟩
theorem fpX8_6 : zFP 8 6 true (.array .boolean) := ⟨RX8, TX8, 33, tyX8, rfl, tyX8_ok, nmX8, rfl, rfl, rfl⟩
theorem fpX8_7 : zFP 8 7 true (.array .int) := ⟨RX8, TX8, 33, tyX8, rfl, tyX8_ok, nmX8, rfl, rfl, rfl⟩
theorem fpX8_8 : zFP 8 8 false .int := ⟨RX8, TX8, 33, tyX8, rfl, tyX8_ok, nmX8, rfl, rfl, rfl⟩
theorem fpX8_9 : zFP 8 9 true (.array .int) := ⟨RX8, TX8, 33, tyX8, rfl, tyX8_ok, nmX8, rfl, rfl, rfl⟩
theorem fpX8_10 : zFP 8 10 true (.array .int) := ⟨RX8, TX8, 33, tyX8, rfl, tyX8_ok, nmX8, rfl, rfl, rfl⟩
theorem fpX8_11 : zFP 8 11 true (.array .int) := ⟨RX8, TX8, 33, tyX8, rfl, tyX8_ok, nmX8, rfl, rfl, rfl⟩
theorem fpX8_12 : zFP 8 12 true (.array .int) := ⟨RX8, TX8, 33, tyX8, rfl, tyX8_ok, nmX8, rfl, rfl, rfl⟩
theorem fpX8_13 : zFP 8 13 true (.array .int) := ⟨RX8, TX8, 33, tyX8, rfl, tyX8_ok, nmX8, rfl, rfl, rfl⟩
theorem fpX8_14 : zFP 8 14 true (.array .int) := ⟨RX8, TX8, 33, tyX8, rfl, tyX8_ok, nmX8, rfl, rfl, rfl⟩
theorem fpX8_15 : zFP 8 15 true (.array .int) := ⟨RX8, TX8, 33, tyX8, rfl, tyX8_ok, nmX8, rfl, rfl, rfl⟩
theorem fpX8_16 : zFP 8 16 true (.array .int) := ⟨RX8, TX8, 33, tyX8, rfl, tyX8_ok, nmX8, rfl, rfl, rfl⟩
theorem fpX8_17 : zFP 8 17 true (.array .int) := ⟨RX8, TX8, 33, tyX8, rfl, tyX8_ok, nmX8, rfl, rfl, rfl⟩
theorem fpX8_18 : zFP 8 18 false .int := ⟨RX8, TX8, 33, tyX8, rfl, tyX8_ok, nmX8, rfl, rfl, rfl⟩
theorem fpX8_19 : zFP 8 19 true (.array .int) := ⟨RX8, TX8, 33, tyX8, rfl, tyX8_ok, nmX8, rfl, rfl, rfl⟩
theorem fpX8_20 : zFP 8 20 true (.array .int) := ⟨RX8, TX8, 33, tyX8, rfl, tyX8_ok, nmX8, rfl, rfl, rfl⟩
theorem fpX8_21 : zFP 8 21 true (.array .int) := ⟨RX8, TX8, 33, tyX8, rfl, tyX8_ok, nmX8, rfl, rfl, rfl⟩
theorem fpX8_22 : zFP 8 22 true (.array .long) := ⟨RX8, TX8, 33, tyX8, rfl, tyX8_ok, nmX8, rfl, rfl, rfl⟩
theorem fpX8_23 : zFP 8 23 true (.array .int) := ⟨RX8, TX8, 33, tyX8, rfl, tyX8_ok, nmX8, rfl, rfl, rfl⟩
theorem fpX8_24 : zFP 8 24 false .int := ⟨RX8, TX8, 33, tyX8, rfl, tyX8_ok, nmX8, rfl, rfl, rfl⟩
theorem fpX8_25 : zFP 8 25 true (.array .int) := ⟨RX8, TX8, 33, tyX8, rfl, tyX8_ok, nmX8, rfl, rfl, rfl⟩
theorem fpX8_26 : zFP 8 26 true (.array .int) := ⟨RX8, TX8, 33, tyX8, rfl, tyX8_ok, nmX8, rfl, rfl, rfl⟩
theorem fpX8_27 : zFP 8 27 true (.array .int) := ⟨RX8, TX8, 33, tyX8, rfl, tyX8_ok, nmX8, rfl, rfl, rfl⟩
theorem fpX8_28 : zFP 8 28 true (.array .int) := ⟨RX8, TX8, 33, tyX8, rfl, tyX8_ok, nmX8, rfl, rfl, rfl⟩
theorem fpX8_29 : zFP 8 29 true (.array .int) := ⟨RX8, TX8, 33, tyX8, rfl, tyX8_ok, nmX8, rfl, rfl, rfl⟩
theorem fpX8_30 : zFP 8 30 true (.array .boolean) := ⟨RX8, TX8, 33, tyX8, rfl, tyX8_ok, nmX8, rfl, rfl, rfl⟩
theorem fpX8_31 : zFP 8 31 true (.array .boolean) := ⟨RX8, TX8, 33, tyX8, rfl, tyX8_ok, nmX8, rfl, rfl, rfl⟩
theorem fpX8_32 : zFP 8 32 true (.array .boolean) := ⟨RX8, TX8, 33, tyX8, rfl, tyX8_ok, nmX8, rfl, rfl, rfl⟩
theorem ctJ6_264 : Cond.constant RJ6 264 (65536 : Int32) ∈ ztb := ztb_in (List.mem_of_getElem? (i := 608) (by decide +kernel)) rfl
theorem ctJ6_265 : Cond.constant RJ6 265 (1431655765 : Int32) ∈ ztb := ztb_in (List.mem_of_getElem? (i := 372) (by decide +kernel)) rfl
theorem ctJ6_266 : Cond.constant RJ6 266 (858993459 : Int32) ∈ ztb := ztb_in (List.mem_of_getElem? (i := 373) (by decide +kernel)) rfl
theorem ctJ6_267 : Cond.constant RJ6 267 (252645135 : Int32) ∈ ztb := ztb_in (List.mem_of_getElem? (i := 374) (by decide +kernel)) rfl
theorem ctX1_142 : Cond.constant RX1 142 (40503 : Int32) ∈ ztb := ztb_in (List.mem_of_getElem? (i := 457) (by decide +kernel)) rfl
theorem ctX1_143 : Cond.constant RX1 143 (16777619 : Int32) ∈ ztb := ztb_in (List.mem_of_getElem? (i := 458) (by decide +kernel)) rfl
theorem ctX7_162 : Cond.constantLong RX7 162 (-1 : Int64) ∈ ztb := ztb_in (List.mem_of_getElem? (i := 480) (by decide +kernel)) rfl
theorem ctX7_164 : Cond.constantLong RX7 164 (-4 : Int64) ∈ ztb := ztb_in (List.mem_of_getElem? (i := 481) (by decide +kernel)) rfl
theorem ctX8_62 : Cond.constant RX8 62 (65536 : Int32) ∈ ztb := ztb_in (List.mem_of_getElem? (i := 673) (by decide +kernel)) rfl
theorem ctX8_67 : Cond.constant RX8 67 (40401 : Int32) ∈ ztb := ztb_in (List.mem_of_getElem? (i := 674) (by decide +kernel)) rfl
theorem ctX8_144 : Cond.constant RX8 144 (40503 : Int32) ∈ ztb := ztb_in (List.mem_of_getElem? (i := 875) (by decide +kernel)) rfl
theorem ctX8_145 : Cond.constant RX8 145 (16777619 : Int32) ∈ ztb := ztb_in (List.mem_of_getElem? (i := 876) (by decide +kernel)) rfl
theorem ctX8_182 : Cond.constantLong RX8 182 (-1 : Int64) ∈ ztb := ztb_in (List.mem_of_getElem? (i := 905) (by decide +kernel)) rfl
theorem ctX8_187 : Cond.constantLong RX8 187 (-4 : Int64) ∈ ztb := ztb_in (List.mem_of_getElem? (i := 909) (by decide +kernel)) rfl
theorem cpX1_39 : Cond.methodLink RX1 39 arraycopyName ∈ ztb := ztb_in (List.mem_of_getElem? (i := 416) (by decide +kernel)) rfl
theorem cpX5_30 : Cond.methodLink RX5 30 arraycopyName ∈ ztb := ztb_in (List.mem_of_getElem? (i := 327) (by decide +kernel)) rfl
theorem cpX7_112 : Cond.methodLink RX7 112 arraycopyName ∈ ztb := ztb_in (List.mem_of_getElem? (i := 375) (by decide +kernel)) rfl
theorem cp_n : Cond.native arraycopyName ∈ ztb := ztb_in (List.mem_of_getElem? (i := 329) (by decide +kernel)) rfl
theorem cp_s : Cond.static arraycopyName ∈ ztb := ztb_in (List.mem_of_getElem? (i := 328) (by decide +kernel)) rfl
theorem cp_i : Cond.initialized "java/lang/System" ∈ ztb := ztb_in (List.mem_of_getElem? (i := 62) (by decide +kernel)) rfl
theorem oiX0_3 : Cond.methodLink RX0 3 Lib.objectInit ∈ ztb := ztb_in (List.mem_of_getElem? (i := 213) (by decide +kernel)) rfl
theorem oiX1_3 : Cond.methodLink RX1 3 Lib.objectInit ∈ ztb := ztb_in (List.mem_of_getElem? (i := 180) (by decide +kernel)) rfl
theorem oiX2_3 : Cond.methodLink RX2 3 Lib.objectInit ∈ ztb := ztb_in (List.mem_of_getElem? (i := 262) (by decide +kernel)) rfl
theorem oiX3_3 : Cond.methodLink RX3 3 Lib.objectInit ∈ ztb := ztb_in (List.mem_of_getElem? (i := 245) (by decide +kernel)) rfl
theorem oiX4_3 : Cond.methodLink RX4 3 Lib.objectInit ∈ ztb := ztb_in (List.mem_of_getElem? (i := 127) (by decide +kernel)) rfl
theorem oiX5_1 : Cond.methodLink RX5 1 Lib.objectInit ∈ ztb := ztb_in (List.mem_of_getElem? (i := 83) (by decide +kernel)) rfl
theorem oiX6_3 : Cond.methodLink RX6 3 Lib.objectInit ∈ ztb := ztb_in (List.mem_of_getElem? (i := 77) (by decide +kernel)) rfl
theorem oiX7_1 : Cond.methodLink RX7 1 Lib.objectInit ∈ ztb := ztb_in (List.mem_of_getElem? (i := 69) (by decide +kernel)) rfl
theorem oiX8_1 : Cond.methodLink RX8 1 Lib.objectInit ∈ ztb := ztb_in (List.mem_of_getElem? (i := 672) (by decide +kernel)) rfl
theorem oi_1 : Cond.instanceMethod Lib.objectInit ∈ ztb := ztb_in (List.mem_of_getElem? (i := 70) (by decide +kernel)) rfl
theorem oi_2 : Cond.code Lib.objectInit ⟨#[0xb1]⟩ 1 none ∈ ztb := ztb_in (List.mem_of_getElem? (i := 71) (by decide +kernel)) rfl
theorem clX1_15 : Cond.classLink RX1 15 "BuiltTwice$Row" ∈ ztb := ztb_in (List.mem_of_getElem? (i := 181) (by decide +kernel)) rfl
theorem clX6_9 : Cond.classLink RX6 9 "BuiltTwice$Row" ∈ ztb := ztb_in (List.mem_of_getElem? (i := 78) (by decide +kernel)) rfl
theorem clX7_23 : Cond.classLink RX7 23 "[[I" ∈ ztb := ztb_in (List.mem_of_getElem? (i := 173) (by decide +kernel)) rfl
theorem nlX1_15 : zNL RX1 15 5 3 := ⟨RX5, TX5, tyX5, rfl, inX5, tyX5_ok, ztb_in (List.mem_of_getElem? (i := 181) (by decide +kernel)) rfl, ztb_in (List.mem_of_getElem? (i := 79) (by decide +kernel)) rfl, ztb_in (List.mem_of_getElem? (i := 53) (by decide +kernel)) rfl, by decide +kernel, rfl, by decide⟩
theorem nlX6_9 : zNL RX6 9 5 3 := ⟨RX5, TX5, tyX5, rfl, inX5, tyX5_ok, ztb_in (List.mem_of_getElem? (i := 78) (by decide +kernel)) rfl, ztb_in (List.mem_of_getElem? (i := 79) (by decide +kernel)) rfl, ztb_in (List.mem_of_getElem? (i := 53) (by decide +kernel)) rfl, by decide +kernel, rfl, by decide⟩
theorem nlX7_7 : zNL RX7 7 6 4 := ⟨RX6, TX6, tyX6, rfl, inX6, tyX6_ok, ztb_in (List.mem_of_getElem? (i := 72) (by decide +kernel)) rfl, ztb_in (List.mem_of_getElem? (i := 73) (by decide +kernel)) rfl, ztb_in (List.mem_of_getElem? (i := 52) (by decide +kernel)) rfl, by decide +kernel, rfl, by decide⟩
theorem nlX7_16 : zNL RX7 16 4 10 := ⟨RX4, TX4, tyX4, rfl, inX4, tyX4_ok, ztb_in (List.mem_of_getElem? (i := 122) (by decide +kernel)) rfl, ztb_in (List.mem_of_getElem? (i := 123) (by decide +kernel)) rfl, ztb_in (List.mem_of_getElem? (i := 55) (by decide +kernel)) rfl, by decide +kernel, rfl, by decide⟩
theorem nlX7_28 : zNL RX7 28 1 7 := ⟨RX1, TX1, tyX1, rfl, inX1, tyX1_ok, ztb_in (List.mem_of_getElem? (i := 175) (by decide +kernel)) rfl, ztb_in (List.mem_of_getElem? (i := 176) (by decide +kernel)) rfl, ztb_in (List.mem_of_getElem? (i := 56) (by decide +kernel)) rfl, by decide +kernel, rfl, by decide⟩
theorem nlX7_40 : zNL RX7 40 0 7 := ⟨RX0, TX0, tyX0, rfl, inX0, tyX0_ok, ztb_in (List.mem_of_getElem? (i := 208) (by decide +kernel)) rfl, ztb_in (List.mem_of_getElem? (i := 209) (by decide +kernel)) rfl, ztb_in (List.mem_of_getElem? (i := 57) (by decide +kernel)) rfl, by decide +kernel, rfl, by decide⟩
theorem nlX7_47 : zNL RX7 47 3 3 := ⟨RX3, TX3, tyX3, rfl, inX3, tyX3_ok, ztb_in (List.mem_of_getElem? (i := 240) (by decide +kernel)) rfl, ztb_in (List.mem_of_getElem? (i := 241) (by decide +kernel)) rfl, ztb_in (List.mem_of_getElem? (i := 58) (by decide +kernel)) rfl, by decide +kernel, rfl, by decide⟩
theorem nlX7_54 : zNL RX7 54 2 3 := ⟨RX2, TX2, tyX2, rfl, inX2, tyX2_ok, ztb_in (List.mem_of_getElem? (i := 257) (by decide +kernel)) rfl, ztb_in (List.mem_of_getElem? (i := 258) (by decide +kernel)) rfl, ztb_in (List.mem_of_getElem? (i := 59) (by decide +kernel)) rfl, by decide +kernel, rfl, by decide⟩
theorem mcJ6_bitCount_0f7a4 : Cond.code yJ6_bitCount_0f7a4 cJ6_bitCount_0f7a4 1 (some .int) ∈ ztb := ztb_in (List.mem_of_getElem? (i := 371) (by decide +kernel)) rfl
theorem mdJ6_bitCount_0f7a4 : (yJ6_bitCount_0f7a4.cls ≠ "java/lang/invoke/MethodHandle" ∧ yJ6_bitCount_0f7a4.cls ≠ "java/lang/invoke/VarHandle") ∧ (parseMethodDescriptor yJ6_bitCount_0f7a4.desc).map (fun d => d.parameters.length) = some 1 := by decide +kernel
theorem msJ6_bitCount_0f7a4 : Cond.static yJ6_bitCount_0f7a4 ∈ ztb := ztb_in (List.mem_of_getElem? (i := 370) (by decide +kernel)) rfl
theorem mcJ6_numberOfTrailingZeros_0f7a4 : Cond.code yJ6_numberOfTrailingZeros_0f7a4 cJ6_numberOfTrailingZeros_0f7a4 2 (some .int) ∈ ztb := ztb_in (List.mem_of_getElem? (i := 607) (by decide +kernel)) rfl
theorem mdJ6_numberOfTrailingZeros_0f7a4 : (yJ6_numberOfTrailingZeros_0f7a4.cls ≠ "java/lang/invoke/MethodHandle" ∧ yJ6_numberOfTrailingZeros_0f7a4.cls ≠ "java/lang/invoke/VarHandle") ∧ (parseMethodDescriptor yJ6_numberOfTrailingZeros_0f7a4.desc).map (fun d => d.parameters.length) = some 1 := by decide +kernel
theorem msJ6_numberOfTrailingZeros_0f7a4 : Cond.static yJ6_numberOfTrailingZeros_0f7a4 ∈ ztb := ztb_in (List.mem_of_getElem? (i := 606) (by decide +kernel)) rfl
theorem mcJ7_fill_53178 : Cond.code yJ7_fill_53178 cJ7_fill_53178 4 none ∈ ztb := ztb_in (List.mem_of_getElem? (i := 265) (by decide +kernel)) rfl
theorem mdJ7_fill_53178 : (yJ7_fill_53178.cls ≠ "java/lang/invoke/MethodHandle" ∧ yJ7_fill_53178.cls ≠ "java/lang/invoke/VarHandle") ∧ (parseMethodDescriptor yJ7_fill_53178.desc).map (fun d => d.parameters.length) = some 2 := by decide +kernel
theorem msJ7_fill_53178 : Cond.static yJ7_fill_53178 ∈ ztb := ztb_in (List.mem_of_getElem? (i := 264) (by decide +kernel)) rfl
theorem mcJ7_fill_d0a16 : Cond.code yJ7_fill_d0a16 cJ7_fill_d0a16 5 none ∈ ztb := ztb_in (List.mem_of_getElem? (i := 497) (by decide +kernel)) rfl
theorem mdJ7_fill_d0a16 : (yJ7_fill_d0a16.cls ≠ "java/lang/invoke/MethodHandle" ∧ yJ7_fill_d0a16.cls ≠ "java/lang/invoke/VarHandle") ∧ (parseMethodDescriptor yJ7_fill_d0a16.desc).map (fun d => d.parameters.length) = some 2 := by decide +kernel
theorem msJ7_fill_d0a16 : Cond.static yJ7_fill_d0a16 ∈ ztb := ztb_in (List.mem_of_getElem? (i := 496) (by decide +kernel)) rfl
theorem mcJ9_max_7cf53 : Cond.code yJ9_max_7cf53 cJ9_max_7cf53 2 (some .int) ∈ ztb := ztb_in (List.mem_of_getElem? (i := 86) (by decide +kernel)) rfl
theorem mdJ9_max_7cf53 : (yJ9_max_7cf53.cls ≠ "java/lang/invoke/MethodHandle" ∧ yJ9_max_7cf53.cls ≠ "java/lang/invoke/VarHandle") ∧ (parseMethodDescriptor yJ9_max_7cf53.desc).map (fun d => d.parameters.length) = some 2 := by decide +kernel
theorem msJ9_max_7cf53 : Cond.static yJ9_max_7cf53 ∈ ztb := ztb_in (List.mem_of_getElem? (i := 85) (by decide +kernel)) rfl
theorem mcJ9_min_7cf53 : Cond.code yJ9_min_7cf53 cJ9_min_7cf53 2 (some .int) ∈ ztb := ztb_in (List.mem_of_getElem? (i := 537) (by decide +kernel)) rfl
theorem mdJ9_min_7cf53 : (yJ9_min_7cf53.cls ≠ "java/lang/invoke/MethodHandle" ∧ yJ9_min_7cf53.cls ≠ "java/lang/invoke/VarHandle") ∧ (parseMethodDescriptor yJ9_min_7cf53.desc).map (fun d => d.parameters.length) = some 2 := by decide +kernel
theorem msJ9_min_7cf53 : Cond.static yJ9_min_7cf53 ∈ ztb := ztb_in (List.mem_of_getElem? (i := 536) (by decide +kernel)) rfl
theorem mcX0_chooseMove : Cond.code yX0_chooseMove cX0_chooseMove 10 none ∈ ztb := ztb_in (List.mem_of_getElem? (i := 545) (by decide +kernel)) rfl
theorem mdX0_chooseMove : (yX0_chooseMove.cls ≠ "java/lang/invoke/MethodHandle" ∧ yX0_chooseMove.cls ≠ "java/lang/invoke/VarHandle") ∧ (parseMethodDescriptor yX0_chooseMove.desc).map (fun d => d.parameters.length) = some 3 := by decide +kernel
theorem miX0_chooseMove : Cond.instanceMethod yX0_chooseMove ∈ ztb := ztb_in (List.mem_of_getElem? (i := 544) (by decide +kernel)) rfl
theorem meX0_chooseMove : Cond.selects yX0_chooseMove.cls yX0_chooseMove yX0_chooseMove ∈ ztb := ztb_in (List.mem_of_getElem? (i := 16) (by decide +kernel)) rfl
theorem mcX0_chooseMoves : Cond.code yX0_chooseMoves cX0_chooseMoves 7 none ∈ ztb := ztb_in (List.mem_of_getElem? (i := 541) (by decide +kernel)) rfl
theorem mdX0_chooseMoves : (yX0_chooseMoves.cls ≠ "java/lang/invoke/MethodHandle" ∧ yX0_chooseMoves.cls ≠ "java/lang/invoke/VarHandle") ∧ (parseMethodDescriptor yX0_chooseMoves.desc).map (fun d => d.parameters.length) = some 3 := by decide +kernel
theorem miX0_chooseMoves : Cond.instanceMethod yX0_chooseMoves ∈ ztb := ztb_in (List.mem_of_getElem? (i := 540) (by decide +kernel)) rfl
theorem meX0_chooseMoves : Cond.selects yX0_chooseMoves.cls yX0_chooseMoves yX0_chooseMoves ∈ ztb := ztb_in (List.mem_of_getElem? (i := 15) (by decide +kernel)) rfl
theorem mcX0_follow : Cond.code yX0_follow cX0_follow 8 none ∈ ztb := ztb_in (List.mem_of_getElem? (i := 549) (by decide +kernel)) rfl
theorem mdX0_follow : (yX0_follow.cls ≠ "java/lang/invoke/MethodHandle" ∧ yX0_follow.cls ≠ "java/lang/invoke/VarHandle") ∧ (parseMethodDescriptor yX0_follow.desc).map (fun d => d.parameters.length) = some 3 := by decide +kernel
theorem miX0_follow : Cond.instanceMethod yX0_follow ∈ ztb := ztb_in (List.mem_of_getElem? (i := 548) (by decide +kernel)) rfl
theorem meX0_follow : Cond.selects yX0_follow.cls yX0_follow yX0_follow ∈ ztb := ztb_in (List.mem_of_getElem? (i := 17) (by decide +kernel)) rfl
theorem mcX0_init : Cond.code yX0_init cX0_init 1 none ∈ ztb := ztb_in (List.mem_of_getElem? (i := 212) (by decide +kernel)) rfl
theorem mdX0_init : (yX0_init.cls ≠ "java/lang/invoke/MethodHandle" ∧ yX0_init.cls ≠ "java/lang/invoke/VarHandle") ∧ (parseMethodDescriptor yX0_init.desc).map (fun d => d.parameters.length) = some 0 := by decide +kernel
theorem miX0_init : Cond.instanceMethod yX0_init ∈ ztb := ztb_in (List.mem_of_getElem? (i := 211) (by decide +kernel)) rfl
theorem mcX0_lay : Cond.code yX0_lay cX0_lay 4 none ∈ ztb := ztb_in (List.mem_of_getElem? (i := 531) (by decide +kernel)) rfl
theorem mdX0_lay : (yX0_lay.cls ≠ "java/lang/invoke/MethodHandle" ∧ yX0_lay.cls ≠ "java/lang/invoke/VarHandle") ∧ (parseMethodDescriptor yX0_lay.desc).map (fun d => d.parameters.length) = some 2 := by decide +kernel
theorem miX0_lay : Cond.instanceMethod yX0_lay ∈ ztb := ztb_in (List.mem_of_getElem? (i := 529) (by decide +kernel)) rfl
theorem meX0_lay : Cond.selects yX0_lay.cls yX0_lay yX0_lay ∈ ztb := ztb_in (List.mem_of_getElem? (i := 530) (by decide +kernel)) rfl
theorem mcX0_likeAhead : Cond.code yX0_likeAhead cX0_likeAhead 4 (some .int) ∈ ztb := ztb_in (List.mem_of_getElem? (i := 534) (by decide +kernel)) rfl
theorem mdX0_likeAhead : (yX0_likeAhead.cls ≠ "java/lang/invoke/MethodHandle" ∧ yX0_likeAhead.cls ≠ "java/lang/invoke/VarHandle") ∧ (parseMethodDescriptor yX0_likeAhead.desc).map (fun d => d.parameters.length) = some 2 := by decide +kernel
theorem msX0_likeAhead : Cond.static yX0_likeAhead ∈ ztb := ztb_in (List.mem_of_getElem? (i := 533) (by decide +kernel)) rfl
theorem mcX0_moveAt : Cond.code yX0_moveAt cX0_moveAt 6 (some .int) ∈ ztb := ztb_in (List.mem_of_getElem? (i := 553) (by decide +kernel)) rfl
theorem mdX0_moveAt : (yX0_moveAt.cls ≠ "java/lang/invoke/MethodHandle" ∧ yX0_moveAt.cls ≠ "java/lang/invoke/VarHandle") ∧ (parseMethodDescriptor yX0_moveAt.desc).map (fun d => d.parameters.length) = some 4 := by decide +kernel
theorem miX0_moveAt : Cond.instanceMethod yX0_moveAt ∈ ztb := ztb_in (List.mem_of_getElem? (i := 552) (by decide +kernel)) rfl
theorem meX0_moveAt : Cond.selects yX0_moveAt.cls yX0_moveAt yX0_moveAt ∈ ztb := ztb_in (List.mem_of_getElem? (i := 18) (by decide +kernel)) rfl
theorem mcX0_note : Cond.code yX0_note cX0_note 4 none ∈ ztb := ztb_in (List.mem_of_getElem? (i := 557) (by decide +kernel)) rfl
theorem mdX0_note : (yX0_note.cls ≠ "java/lang/invoke/MethodHandle" ∧ yX0_note.cls ≠ "java/lang/invoke/VarHandle") ∧ (parseMethodDescriptor yX0_note.desc).map (fun d => d.parameters.length) = some 3 := by decide +kernel
theorem miX0_note : Cond.instanceMethod yX0_note ∈ ztb := ztb_in (List.mem_of_getElem? (i := 556) (by decide +kernel)) rfl
theorem meX0_note : Cond.selects yX0_note.cls yX0_note yX0_note ∈ ztb := ztb_in (List.mem_of_getElem? (i := 19) (by decide +kernel)) rfl
theorem mcX1_hasGoodInputs : Cond.code yX1_hasGoodInputs cX1_hasGoodInputs 4 (some .boolean) ∈ ztb := ztb_in (List.mem_of_getElem? (i := 424) (by decide +kernel)) rfl
theorem mdX1_hasGoodInputs : (yX1_hasGoodInputs.cls ≠ "java/lang/invoke/MethodHandle" ∧ yX1_hasGoodInputs.cls ≠ "java/lang/invoke/VarHandle") ∧ (parseMethodDescriptor yX1_hasGoodInputs.desc).map (fun d => d.parameters.length) = some 1 := by decide +kernel
theorem miX1_hasGoodInputs : Cond.instanceMethod yX1_hasGoodInputs ∈ ztb := ztb_in (List.mem_of_getElem? (i := 423) (by decide +kernel)) rfl
theorem meX1_hasGoodInputs : Cond.selects yX1_hasGoodInputs.cls yX1_hasGoodInputs yX1_hasGoodInputs ∈ ztb := ztb_in (List.mem_of_getElem? (i := 5) (by decide +kernel)) rfl
theorem mcX1_init : Cond.code yX1_init cX1_init 4 none ∈ ztb := ztb_in (List.mem_of_getElem? (i := 179) (by decide +kernel)) rfl
theorem mdX1_init : (yX1_init.cls ≠ "java/lang/invoke/MethodHandle" ∧ yX1_init.cls ≠ "java/lang/invoke/VarHandle") ∧ (parseMethodDescriptor yX1_init.desc).map (fun d => d.parameters.length) = some 2 := by decide +kernel
theorem miX1_init : Cond.instanceMethod yX1_init ∈ ztb := ztb_in (List.mem_of_getElem? (i := 178) (by decide +kernel)) rfl
theorem mcX1_inputRow : Cond.code yX1_inputRow cX1_inputRow 4 (some (.object "BuiltTwice$Row")) ∈ ztb := ztb_in (List.mem_of_getElem? (i := 436) (by decide +kernel)) rfl
theorem mdX1_inputRow : (yX1_inputRow.cls ≠ "java/lang/invoke/MethodHandle" ∧ yX1_inputRow.cls ≠ "java/lang/invoke/VarHandle") ∧ (parseMethodDescriptor yX1_inputRow.desc).map (fun d => d.parameters.length) = some 2 := by decide +kernel
theorem miX1_inputRow : Cond.instanceMethod yX1_inputRow ∈ ztb := ztb_in (List.mem_of_getElem? (i := 435) (by decide +kernel)) rfl
theorem meX1_inputRow : Cond.selects yX1_inputRow.cls yX1_inputRow yX1_inputRow ∈ ztb := ztb_in (List.mem_of_getElem? (i := 7) (by decide +kernel)) rfl
theorem mcX1_join : Cond.code yX1_join cX1_join 6 (some .boolean) ∈ ztb := ztb_in (List.mem_of_getElem? (i := 441) (by decide +kernel)) rfl
theorem mdX1_join : (yX1_join.cls ≠ "java/lang/invoke/MethodHandle" ∧ yX1_join.cls ≠ "java/lang/invoke/VarHandle") ∧ (parseMethodDescriptor yX1_join.desc).map (fun d => d.parameters.length) = some 3 := by decide +kernel
theorem miX1_join : Cond.instanceMethod yX1_join ∈ ztb := ztb_in (List.mem_of_getElem? (i := 440) (by decide +kernel)) rfl
theorem meX1_join : Cond.selects yX1_join.cls yX1_join yX1_join ∈ ztb := ztb_in (List.mem_of_getElem? (i := 8) (by decide +kernel)) rfl
theorem mcX1_make : Cond.code yX1_make cX1_make 3 none ∈ ztb := ztb_in (List.mem_of_getElem? (i := 420) (by decide +kernel)) rfl
theorem mdX1_make : (yX1_make.cls ≠ "java/lang/invoke/MethodHandle" ∧ yX1_make.cls ≠ "java/lang/invoke/VarHandle") ∧ (parseMethodDescriptor yX1_make.desc).map (fun d => d.parameters.length) = some 1 := by decide +kernel
theorem miX1_make : Cond.instanceMethod yX1_make ∈ ztb := ztb_in (List.mem_of_getElem? (i := 418) (by decide +kernel)) rfl
theorem meX1_make : Cond.selects yX1_make.cls yX1_make yX1_make ∈ ztb := ztb_in (List.mem_of_getElem? (i := 419) (by decide +kernel)) rfl
theorem mcX1_makeIn : Cond.code yX1_makeIn cX1_makeIn 3 none ∈ ztb := ztb_in (List.mem_of_getElem? (i := 411) (by decide +kernel)) rfl
theorem mdX1_makeIn : (yX1_makeIn.cls ≠ "java/lang/invoke/MethodHandle" ∧ yX1_makeIn.cls ≠ "java/lang/invoke/VarHandle") ∧ (parseMethodDescriptor yX1_makeIn.desc).map (fun d => d.parameters.length) = some 2 := by decide +kernel
theorem miX1_makeIn : Cond.instanceMethod yX1_makeIn ∈ ztb := ztb_in (List.mem_of_getElem? (i := 409) (by decide +kernel)) rfl
theorem meX1_makeIn : Cond.selects yX1_makeIn.cls yX1_makeIn yX1_makeIn ∈ ztb := ztb_in (List.mem_of_getElem? (i := 410) (by decide +kernel)) rfl
theorem mcX1_mask : Cond.code yX1_mask cX1_mask 3 none ∈ ztb := ztb_in (List.mem_of_getElem? (i := 448) (by decide +kernel)) rfl
theorem mdX1_mask : (yX1_mask.cls ≠ "java/lang/invoke/MethodHandle" ∧ yX1_mask.cls ≠ "java/lang/invoke/VarHandle") ∧ (parseMethodDescriptor yX1_mask.desc).map (fun d => d.parameters.length) = some 2 := by decide +kernel
theorem msX1_mask : Cond.static yX1_mask ∈ ztb := ztb_in (List.mem_of_getElem? (i := 447) (by decide +kernel)) rfl
theorem mcX1_open : Cond.code yX1_open cX1_open 2 none ∈ ztb := ztb_in (List.mem_of_getElem? (i := 415) (by decide +kernel)) rfl
theorem mdX1_open : (yX1_open.cls ≠ "java/lang/invoke/MethodHandle" ∧ yX1_open.cls ≠ "java/lang/invoke/VarHandle") ∧ (parseMethodDescriptor yX1_open.desc).map (fun d => d.parameters.length) = some 1 := by decide +kernel
theorem miX1_open : Cond.instanceMethod yX1_open ∈ ztb := ztb_in (List.mem_of_getElem? (i := 413) (by decide +kernel)) rfl
theorem meX1_open : Cond.selects yX1_open.cls yX1_open yX1_open ∈ ztb := ztb_in (List.mem_of_getElem? (i := 414) (by decide +kernel)) rfl
theorem mcX1_runTool : Cond.code yX1_runTool cX1_runTool 6 (some .boolean) ∈ ztb := ztb_in (List.mem_of_getElem? (i := 432) (by decide +kernel)) rfl
theorem mdX1_runTool : (yX1_runTool.cls ≠ "java/lang/invoke/MethodHandle" ∧ yX1_runTool.cls ≠ "java/lang/invoke/VarHandle") ∧ (parseMethodDescriptor yX1_runTool.desc).map (fun d => d.parameters.length) = some 2 := by decide +kernel
theorem miX1_runTool : Cond.instanceMethod yX1_runTool ∈ ztb := ztb_in (List.mem_of_getElem? (i := 431) (by decide +kernel)) rfl
theorem meX1_runTool : Cond.selects yX1_runTool.cls yX1_runTool yX1_runTool ∈ ztb := ztb_in (List.mem_of_getElem? (i := 6) (by decide +kernel)) rfl
theorem mcX1_sign : Cond.code yX1_sign cX1_sign 3 none ∈ ztb := ztb_in (List.mem_of_getElem? (i := 456) (by decide +kernel)) rfl
theorem mdX1_sign : (yX1_sign.cls ≠ "java/lang/invoke/MethodHandle" ∧ yX1_sign.cls ≠ "java/lang/invoke/VarHandle") ∧ (parseMethodDescriptor yX1_sign.desc).map (fun d => d.parameters.length) = some 1 := by decide +kernel
theorem msX1_sign : Cond.static yX1_sign ∈ ztb := ztb_in (List.mem_of_getElem? (i := 455) (by decide +kernel)) rfl
theorem mcX1_sort : Cond.code yX1_sort cX1_sort 4 none ∈ ztb := ztb_in (List.mem_of_getElem? (i := 452) (by decide +kernel)) rfl
theorem mdX1_sort : (yX1_sort.cls ≠ "java/lang/invoke/MethodHandle" ∧ yX1_sort.cls ≠ "java/lang/invoke/VarHandle") ∧ (parseMethodDescriptor yX1_sort.desc).map (fun d => d.parameters.length) = some 1 := by decide +kernel
theorem miX1_sort : Cond.instanceMethod yX1_sort ∈ ztb := ztb_in (List.mem_of_getElem? (i := 451) (by decide +kernel)) rfl
theorem meX1_sort : Cond.selects yX1_sort.cls yX1_sort yX1_sort ∈ ztb := ztb_in (List.mem_of_getElem? (i := 9) (by decide +kernel)) rfl
theorem mcX1_strip : Cond.code yX1_strip cX1_strip 4 none ∈ ztb := ztb_in (List.mem_of_getElem? (i := 445) (by decide +kernel)) rfl
theorem mdX1_strip : (yX1_strip.cls ≠ "java/lang/invoke/MethodHandle" ∧ yX1_strip.cls ≠ "java/lang/invoke/VarHandle") ∧ (parseMethodDescriptor yX1_strip.desc).map (fun d => d.parameters.length) = some 2 := by decide +kernel
theorem msX1_strip : Cond.static yX1_strip ∈ ztb := ztb_in (List.mem_of_getElem? (i := 444) (by decide +kernel)) rfl
theorem mcX1_turn : Cond.code yX1_turn cX1_turn 3 none ∈ ztb := ztb_in (List.mem_of_getElem? (i := 580) (by decide +kernel)) rfl
theorem mdX1_turn : (yX1_turn.cls ≠ "java/lang/invoke/MethodHandle" ∧ yX1_turn.cls ≠ "java/lang/invoke/VarHandle") ∧ (parseMethodDescriptor yX1_turn.desc).map (fun d => d.parameters.length) = some 2 := by decide +kernel
theorem miX1_turn : Cond.instanceMethod yX1_turn ∈ ztb := ztb_in (List.mem_of_getElem? (i := 578) (by decide +kernel)) rfl
theorem meX1_turn : Cond.selects yX1_turn.cls yX1_turn yX1_turn ∈ ztb := ztb_in (List.mem_of_getElem? (i := 579) (by decide +kernel)) rfl
theorem mcX1_wordsRead : Cond.code yX1_wordsRead cX1_wordsRead 4 (some .int) ∈ ztb := ztb_in (List.mem_of_getElem? (i := 470) (by decide +kernel)) rfl
theorem mdX1_wordsRead : (yX1_wordsRead.cls ≠ "java/lang/invoke/MethodHandle" ∧ yX1_wordsRead.cls ≠ "java/lang/invoke/VarHandle") ∧ (parseMethodDescriptor yX1_wordsRead.desc).map (fun d => d.parameters.length) = some 1 := by decide +kernel
theorem miX1_wordsRead : Cond.instanceMethod yX1_wordsRead ∈ ztb := ztb_in (List.mem_of_getElem? (i := 468) (by decide +kernel)) rfl
theorem meX1_wordsRead : Cond.selects yX1_wordsRead.cls yX1_wordsRead yX1_wordsRead ∈ ztb := ztb_in (List.mem_of_getElem? (i := 469) (by decide +kernel)) rfl
theorem mcX2_after : Cond.code yX2_after cX2_after 5 (some .int) ∈ ztb := ztb_in (List.mem_of_getElem? (i := 632) (by decide +kernel)) rfl
theorem mdX2_after : (yX2_after.cls ≠ "java/lang/invoke/MethodHandle" ∧ yX2_after.cls ≠ "java/lang/invoke/VarHandle") ∧ (parseMethodDescriptor yX2_after.desc).map (fun d => d.parameters.length) = some 2 := by decide +kernel
theorem miX2_after : Cond.instanceMethod yX2_after ∈ ztb := ztb_in (List.mem_of_getElem? (i := 630) (by decide +kernel)) rfl
theorem meX2_after : Cond.selects yX2_after.cls yX2_after yX2_after ∈ ztb := ztb_in (List.mem_of_getElem? (i := 631) (by decide +kernel)) rfl
theorem mcX2_init : Cond.code yX2_init cX2_init 1 none ∈ ztb := ztb_in (List.mem_of_getElem? (i := 261) (by decide +kernel)) rfl
theorem mdX2_init : (yX2_init.cls ≠ "java/lang/invoke/MethodHandle" ∧ yX2_init.cls ≠ "java/lang/invoke/VarHandle") ∧ (parseMethodDescriptor yX2_init.desc).map (fun d => d.parameters.length) = some 0 := by decide +kernel
theorem miX2_init : Cond.instanceMethod yX2_init ∈ ztb := ztb_in (List.mem_of_getElem? (i := 260) (by decide +kernel)) rfl
theorem mcX2_ringStart : Cond.code yX2_ringStart cX2_ringStart 2 (some .int) ∈ ztb := ztb_in (List.mem_of_getElem? (i := 623) (by decide +kernel)) rfl
theorem mdX2_ringStart : (yX2_ringStart.cls ≠ "java/lang/invoke/MethodHandle" ∧ yX2_ringStart.cls ≠ "java/lang/invoke/VarHandle") ∧ (parseMethodDescriptor yX2_ringStart.desc).map (fun d => d.parameters.length) = some 1 := by decide +kernel
theorem miX2_ringStart : Cond.instanceMethod yX2_ringStart ∈ ztb := ztb_in (List.mem_of_getElem? (i := 621) (by decide +kernel)) rfl
theorem meX2_ringStart : Cond.selects yX2_ringStart.cls yX2_ringStart yX2_ringStart ∈ ztb := ztb_in (List.mem_of_getElem? (i := 622) (by decide +kernel)) rfl
theorem mcX2_seeds : Cond.code yX2_seeds cX2_seeds 3 (some .int) ∈ ztb := ztb_in (List.mem_of_getElem? (i := 666) (by decide +kernel)) rfl
theorem mdX2_seeds : (yX2_seeds.cls ≠ "java/lang/invoke/MethodHandle" ∧ yX2_seeds.cls ≠ "java/lang/invoke/VarHandle") ∧ (parseMethodDescriptor yX2_seeds.desc).map (fun d => d.parameters.length) = some 0 := by decide +kernel
theorem miX2_seeds : Cond.instanceMethod yX2_seeds ∈ ztb := ztb_in (List.mem_of_getElem? (i := 664) (by decide +kernel)) rfl
theorem meX2_seeds : Cond.selects yX2_seeds.cls yX2_seeds yX2_seeds ∈ ztb := ztb_in (List.mem_of_getElem? (i := 665) (by decide +kernel)) rfl
theorem mcX2_textsOn : Cond.code yX2_textsOn cX2_textsOn 4 (some .int) ∈ ztb := ztb_in (List.mem_of_getElem? (i := 646) (by decide +kernel)) rfl
theorem mdX2_textsOn : (yX2_textsOn.cls ≠ "java/lang/invoke/MethodHandle" ∧ yX2_textsOn.cls ≠ "java/lang/invoke/VarHandle") ∧ (parseMethodDescriptor yX2_textsOn.desc).map (fun d => d.parameters.length) = some 1 := by decide +kernel
theorem miX2_textsOn : Cond.instanceMethod yX2_textsOn ∈ ztb := ztb_in (List.mem_of_getElem? (i := 644) (by decide +kernel)) rfl
theorem meX2_textsOn : Cond.selects yX2_textsOn.cls yX2_textsOn yX2_textsOn ∈ ztb := ztb_in (List.mem_of_getElem? (i := 645) (by decide +kernel)) rfl
theorem mcX2_way : Cond.code yX2_way cX2_way 5 (some .int) ∈ ztb := ztb_in (List.mem_of_getElem? (i := 627) (by decide +kernel)) rfl
theorem mdX2_way : (yX2_way.cls ≠ "java/lang/invoke/MethodHandle" ∧ yX2_way.cls ≠ "java/lang/invoke/VarHandle") ∧ (parseMethodDescriptor yX2_way.desc).map (fun d => d.parameters.length) = some 1 := by decide +kernel
theorem miX2_way : Cond.instanceMethod yX2_way ∈ ztb := ztb_in (List.mem_of_getElem? (i := 625) (by decide +kernel)) rfl
theorem meX2_way : Cond.selects yX2_way.cls yX2_way yX2_way ∈ ztb := ztb_in (List.mem_of_getElem? (i := 626) (by decide +kernel)) rfl
theorem mcX3_doOneMore : Cond.code yX3_doOneMore cX3_doOneMore 4 none ∈ ztb := ztb_in (List.mem_of_getElem? (i := 501) (by decide +kernel)) rfl
theorem mdX3_doOneMore : (yX3_doOneMore.cls ≠ "java/lang/invoke/MethodHandle" ∧ yX3_doOneMore.cls ≠ "java/lang/invoke/VarHandle") ∧ (parseMethodDescriptor yX3_doOneMore.desc).map (fun d => d.parameters.length) = some 2 := by decide +kernel
theorem miX3_doOneMore : Cond.instanceMethod yX3_doOneMore ∈ ztb := ztb_in (List.mem_of_getElem? (i := 500) (by decide +kernel)) rfl
theorem meX3_doOneMore : Cond.selects yX3_doOneMore.cls yX3_doOneMore yX3_doOneMore ∈ ztb := ztb_in (List.mem_of_getElem? (i := 12) (by decide +kernel)) rfl
theorem mcX3_init : Cond.code yX3_init cX3_init 1 none ∈ ztb := ztb_in (List.mem_of_getElem? (i := 244) (by decide +kernel)) rfl
theorem mdX3_init : (yX3_init.cls ≠ "java/lang/invoke/MethodHandle" ∧ yX3_init.cls ≠ "java/lang/invoke/VarHandle") ∧ (parseMethodDescriptor yX3_init.desc).map (fun d => d.parameters.length) = some 0 := by decide +kernel
theorem miX3_init : Cond.instanceMethod yX3_init ∈ ztb := ztb_in (List.mem_of_getElem? (i := 243) (by decide +kernel)) rfl
theorem mcX3_numberOthers : Cond.code yX3_numberOthers cX3_numberOthers 5 (some .int) ∈ ztb := ztb_in (List.mem_of_getElem? (i := 489) (by decide +kernel)) rfl
theorem mdX3_numberOthers : (yX3_numberOthers.cls ≠ "java/lang/invoke/MethodHandle" ∧ yX3_numberOthers.cls ≠ "java/lang/invoke/VarHandle") ∧ (parseMethodDescriptor yX3_numberOthers.desc).map (fun d => d.parameters.length) = some 2 := by decide +kernel
theorem miX3_numberOthers : Cond.instanceMethod yX3_numberOthers ∈ ztb := ztb_in (List.mem_of_getElem? (i := 488) (by decide +kernel)) rfl
theorem meX3_numberOthers : Cond.selects yX3_numberOthers.cls yX3_numberOthers yX3_numberOthers ∈ ztb := ztb_in (List.mem_of_getElem? (i := 10) (by decide +kernel)) rfl
theorem mcX3_numberedInputs : Cond.code yX3_numberedInputs cX3_numberedInputs 6 (some .int) ∈ ztb := ztb_in (List.mem_of_getElem? (i := 493) (by decide +kernel)) rfl
theorem mdX3_numberedInputs : (yX3_numberedInputs.cls ≠ "java/lang/invoke/MethodHandle" ∧ yX3_numberedInputs.cls ≠ "java/lang/invoke/VarHandle") ∧ (parseMethodDescriptor yX3_numberedInputs.desc).map (fun d => d.parameters.length) = some 2 := by decide +kernel
theorem miX3_numberedInputs : Cond.instanceMethod yX3_numberedInputs ∈ ztb := ztb_in (List.mem_of_getElem? (i := 492) (by decide +kernel)) rfl
theorem meX3_numberedInputs : Cond.selects yX3_numberedInputs.cls yX3_numberedInputs yX3_numberedInputs ∈ ztb := ztb_in (List.mem_of_getElem? (i := 11) (by decide +kernel)) rfl
theorem mcX3_ordersOf : Cond.code yX3_ordersOf cX3_ordersOf 6 (some .long) ∈ ztb := ztb_in (List.mem_of_getElem? (i := 485) (by decide +kernel)) rfl
theorem mdX3_ordersOf : (yX3_ordersOf.cls ≠ "java/lang/invoke/MethodHandle" ∧ yX3_ordersOf.cls ≠ "java/lang/invoke/VarHandle") ∧ (parseMethodDescriptor yX3_ordersOf.desc).map (fun d => d.parameters.length) = some 2 := by decide +kernel
theorem miX3_ordersOf : Cond.instanceMethod yX3_ordersOf ∈ ztb := ztb_in (List.mem_of_getElem? (i := 483) (by decide +kernel)) rfl
theorem meX3_ordersOf : Cond.selects yX3_ordersOf.cls yX3_ordersOf yX3_ordersOf ∈ ztb := ztb_in (List.mem_of_getElem? (i := 484) (by decide +kernel)) rfl
theorem mcX4_addInput : Cond.code yX4_addInput cX4_addInput 4 (some .int) ∈ ztb := ztb_in (List.mem_of_getElem? (i := 403) (by decide +kernel)) rfl
theorem mdX4_addInput : (yX4_addInput.cls ≠ "java/lang/invoke/MethodHandle" ∧ yX4_addInput.cls ≠ "java/lang/invoke/VarHandle") ∧ (parseMethodDescriptor yX4_addInput.desc).map (fun d => d.parameters.length) = some 2 := by decide +kernel
theorem miX4_addInput : Cond.instanceMethod yX4_addInput ∈ ztb := ztb_in (List.mem_of_getElem? (i := 401) (by decide +kernel)) rfl
theorem meX4_addInput : Cond.selects yX4_addInput.cls yX4_addInput yX4_addInput ∈ ztb := ztb_in (List.mem_of_getElem? (i := 402) (by decide +kernel)) rfl
theorem mcX4_addStep : Cond.code yX4_addStep cX4_addStep 5 (some .int) ∈ ztb := ztb_in (List.mem_of_getElem? (i := 383) (by decide +kernel)) rfl
theorem mdX4_addStep : (yX4_addStep.cls ≠ "java/lang/invoke/MethodHandle" ∧ yX4_addStep.cls ≠ "java/lang/invoke/VarHandle") ∧ (parseMethodDescriptor yX4_addStep.desc).map (fun d => d.parameters.length) = some 3 := by decide +kernel
theorem miX4_addStep : Cond.instanceMethod yX4_addStep ∈ ztb := ztb_in (List.mem_of_getElem? (i := 381) (by decide +kernel)) rfl
theorem meX4_addStep : Cond.selects yX4_addStep.cls yX4_addStep yX4_addStep ∈ ztb := ztb_in (List.mem_of_getElem? (i := 382) (by decide +kernel)) rfl
theorem mcX4_init : Cond.code yX4_init cX4_init 1 none ∈ ztb := ztb_in (List.mem_of_getElem? (i := 126) (by decide +kernel)) rfl
theorem mdX4_init : (yX4_init.cls ≠ "java/lang/invoke/MethodHandle" ∧ yX4_init.cls ≠ "java/lang/invoke/VarHandle") ∧ (parseMethodDescriptor yX4_init.desc).map (fun d => d.parameters.length) = some 0 := by decide +kernel
theorem miX4_init : Cond.instanceMethod yX4_init ∈ ztb := ztb_in (List.mem_of_getElem? (i := 125) (by decide +kernel)) rfl
theorem mcX4_input : Cond.code yX4_input cX4_input 3 (some .int) ∈ ztb := ztb_in (List.mem_of_getElem? (i := 428) (by decide +kernel)) rfl
theorem mdX4_input : (yX4_input.cls ≠ "java/lang/invoke/MethodHandle" ∧ yX4_input.cls ≠ "java/lang/invoke/VarHandle") ∧ (parseMethodDescriptor yX4_input.desc).map (fun d => d.parameters.length) = some 2 := by decide +kernel
theorem miX4_input : Cond.instanceMethod yX4_input ∈ ztb := ztb_in (List.mem_of_getElem? (i := 426) (by decide +kernel)) rfl
theorem meX4_input : Cond.selects yX4_input.cls yX4_input yX4_input ∈ ztb := ztb_in (List.mem_of_getElem? (i := 427) (by decide +kernel)) rfl
theorem mcX4_ownWord : Cond.code yX4_ownWord cX4_ownWord 3 (some .int) ∈ ztb := ztb_in (List.mem_of_getElem? (i := 387) (by decide +kernel)) rfl
theorem mdX4_ownWord : (yX4_ownWord.cls ≠ "java/lang/invoke/MethodHandle" ∧ yX4_ownWord.cls ≠ "java/lang/invoke/VarHandle") ∧ (parseMethodDescriptor yX4_ownWord.desc).map (fun d => d.parameters.length) = some 1 := by decide +kernel
theorem miX4_ownWord : Cond.instanceMethod yX4_ownWord ∈ ztb := ztb_in (List.mem_of_getElem? (i := 385) (by decide +kernel)) rfl
theorem meX4_ownWord : Cond.selects yX4_ownWord.cls yX4_ownWord yX4_ownWord ∈ ztb := ztb_in (List.mem_of_getElem? (i := 386) (by decide +kernel)) rfl
theorem mcX4_stepsReachedBy : Cond.code yX4_stepsReachedBy cX4_stepsReachedBy 4 (some .int) ∈ ztb := ztb_in (List.mem_of_getElem? (i := 584) (by decide +kernel)) rfl
theorem mdX4_stepsReachedBy : (yX4_stepsReachedBy.cls ≠ "java/lang/invoke/MethodHandle" ∧ yX4_stepsReachedBy.cls ≠ "java/lang/invoke/VarHandle") ∧ (parseMethodDescriptor yX4_stepsReachedBy.desc).map (fun d => d.parameters.length) = some 1 := by decide +kernel
theorem miX4_stepsReachedBy : Cond.instanceMethod yX4_stepsReachedBy ∈ ztb := ztb_in (List.mem_of_getElem? (i := 582) (by decide +kernel)) rfl
theorem meX4_stepsReachedBy : Cond.selects yX4_stepsReachedBy.cls yX4_stepsReachedBy yX4_stepsReachedBy ∈ ztb := ztb_in (List.mem_of_getElem? (i := 583) (by decide +kernel)) rfl
theorem mcX5_append : Cond.code yX5_append cX5_append 2 (some .boolean) ∈ ztb := ztb_in (List.mem_of_getElem? (i := 326) (by decide +kernel)) rfl
theorem mdX5_append : (yX5_append.cls ≠ "java/lang/invoke/MethodHandle" ∧ yX5_append.cls ≠ "java/lang/invoke/VarHandle") ∧ (parseMethodDescriptor yX5_append.desc).map (fun d => d.parameters.length) = some 1 := by decide +kernel
theorem miX5_append : Cond.instanceMethod yX5_append ∈ ztb := ztb_in (List.mem_of_getElem? (i := 324) (by decide +kernel)) rfl
theorem meX5_append : Cond.selects yX5_append.cls yX5_append yX5_append ∈ ztb := ztb_in (List.mem_of_getElem? (i := 325) (by decide +kernel)) rfl
theorem mcX5_init : Cond.code yX5_init cX5_init 2 none ∈ ztb := ztb_in (List.mem_of_getElem? (i := 82) (by decide +kernel)) rfl
theorem mdX5_init : (yX5_init.cls ≠ "java/lang/invoke/MethodHandle" ∧ yX5_init.cls ≠ "java/lang/invoke/VarHandle") ∧ (parseMethodDescriptor yX5_init.desc).map (fun d => d.parameters.length) = some 1 := by decide +kernel
theorem miX5_init : Cond.instanceMethod yX5_init ∈ ztb := ztb_in (List.mem_of_getElem? (i := 81) (by decide +kernel)) rfl
theorem mcX5_isSameAs : Cond.code yX5_isSameAs cX5_isSameAs 3 (some .boolean) ∈ ztb := ztb_in (List.mem_of_getElem? (i := 523) (by decide +kernel)) rfl
theorem mdX5_isSameAs : (yX5_isSameAs.cls ≠ "java/lang/invoke/MethodHandle" ∧ yX5_isSameAs.cls ≠ "java/lang/invoke/VarHandle") ∧ (parseMethodDescriptor yX5_isSameAs.desc).map (fun d => d.parameters.length) = some 1 := by decide +kernel
theorem miX5_isSameAs : Cond.instanceMethod yX5_isSameAs ∈ ztb := ztb_in (List.mem_of_getElem? (i := 521) (by decide +kernel)) rfl
theorem meX5_isSameAs : Cond.selects yX5_isSameAs.cls yX5_isSameAs yX5_isSameAs ∈ ztb := ztb_in (List.mem_of_getElem? (i := 522) (by decide +kernel)) rfl
theorem mcX5_makeSpaceFor : Cond.code yX5_makeSpaceFor cX5_makeSpaceFor 2 (some .boolean) ∈ ztb := ztb_in (List.mem_of_getElem? (i := 314) (by decide +kernel)) rfl
theorem mdX5_makeSpaceFor : (yX5_makeSpaceFor.cls ≠ "java/lang/invoke/MethodHandle" ∧ yX5_makeSpaceFor.cls ≠ "java/lang/invoke/VarHandle") ∧ (parseMethodDescriptor yX5_makeSpaceFor.desc).map (fun d => d.parameters.length) = some 1 := by decide +kernel
theorem miX5_makeSpaceFor : Cond.instanceMethod yX5_makeSpaceFor ∈ ztb := ztb_in (List.mem_of_getElem? (i := 313) (by decide +kernel)) rfl
theorem meX5_makeSpaceFor : Cond.selects yX5_makeSpaceFor.cls yX5_makeSpaceFor yX5_makeSpaceFor ∈ ztb := ztb_in (List.mem_of_getElem? (i := 0) (by decide +kernel)) rfl
theorem mcX5_put : Cond.code yX5_put cX5_put 2 (some .boolean) ∈ ztb := ztb_in (List.mem_of_getElem? (i := 310) (by decide +kernel)) rfl
theorem mdX5_put : (yX5_put.cls ≠ "java/lang/invoke/MethodHandle" ∧ yX5_put.cls ≠ "java/lang/invoke/VarHandle") ∧ (parseMethodDescriptor yX5_put.desc).map (fun d => d.parameters.length) = some 1 := by decide +kernel
theorem miX5_put : Cond.instanceMethod yX5_put ∈ ztb := ztb_in (List.mem_of_getElem? (i := 308) (by decide +kernel)) rfl
theorem meX5_put : Cond.selects yX5_put.cls yX5_put yX5_put ∈ ztb := ztb_in (List.mem_of_getElem? (i := 309) (by decide +kernel)) rfl
theorem mcX6_init : Cond.code yX6_init cX6_init 2 none ∈ ztb := ztb_in (List.mem_of_getElem? (i := 76) (by decide +kernel)) rfl
theorem mdX6_init : (yX6_init.cls ≠ "java/lang/invoke/MethodHandle" ∧ yX6_init.cls ≠ "java/lang/invoke/VarHandle") ∧ (parseMethodDescriptor yX6_init.desc).map (fun d => d.parameters.length) = some 0 := by decide +kernel
theorem miX6_init : Cond.instanceMethod yX6_init ∈ ztb := ztb_in (List.mem_of_getElem? (i := 75) (by decide +kernel)) rfl
theorem mcX6_tapeTo : Cond.code yX6_tapeTo cX6_tapeTo 2 (some .int) ∈ ztb := ztb_in (List.mem_of_getElem? (i := 322) (by decide +kernel)) rfl
theorem mdX6_tapeTo : (yX6_tapeTo.cls ≠ "java/lang/invoke/MethodHandle" ∧ yX6_tapeTo.cls ≠ "java/lang/invoke/VarHandle") ∧ (parseMethodDescriptor yX6_tapeTo.desc).map (fun d => d.parameters.length) = some 1 := by decide +kernel
theorem miX6_tapeTo : Cond.instanceMethod yX6_tapeTo ∈ ztb := ztb_in (List.mem_of_getElem? (i := 320) (by decide +kernel)) rfl
theorem meX6_tapeTo : Cond.selects yX6_tapeTo.cls yX6_tapeTo yX6_tapeTo ∈ ztb := ztb_in (List.mem_of_getElem? (i := 321) (by decide +kernel)) rfl
theorem mcX7_areRooms : Cond.code yX7_areRooms cX7_areRooms 2 (some .boolean) ∈ ztb := ztb_in (List.mem_of_getElem? (i := 364) (by decide +kernel)) rfl
theorem mdX7_areRooms : (yX7_areRooms.cls ≠ "java/lang/invoke/MethodHandle" ∧ yX7_areRooms.cls ≠ "java/lang/invoke/VarHandle") ∧ (parseMethodDescriptor yX7_areRooms.desc).map (fun d => d.parameters.length) = some 2 := by decide +kernel
theorem msX7_areRooms : Cond.static yX7_areRooms ∈ ztb := ztb_in (List.mem_of_getElem? (i := 363) (by decide +kernel)) rfl
theorem mcX7_buildBoth : Cond.code yX7_buildBoth cX7_buildBoth 4 none ∈ ztb := ztb_in (List.mem_of_getElem? (i := 515) (by decide +kernel)) rfl
theorem mdX7_buildBoth : (yX7_buildBoth.cls ≠ "java/lang/invoke/MethodHandle" ∧ yX7_buildBoth.cls ≠ "java/lang/invoke/VarHandle") ∧ (parseMethodDescriptor yX7_buildBoth.desc).map (fun d => d.parameters.length) = some 3 := by decide +kernel
theorem miX7_buildBoth : Cond.instanceMethod yX7_buildBoth ∈ ztb := ztb_in (List.mem_of_getElem? (i := 514) (by decide +kernel)) rfl
theorem meX7_buildBoth : Cond.selects yX7_buildBoth.cls yX7_buildBoth yX7_buildBoth ∈ ztb := ztb_in (List.mem_of_getElem? (i := 13) (by decide +kernel)) rfl
theorem mcX7_firstUnlike : Cond.code yX7_firstUnlike cX7_firstUnlike 6 (some .int) ∈ ztb := ztb_in (List.mem_of_getElem? (i := 592) (by decide +kernel)) rfl
theorem mdX7_firstUnlike : (yX7_firstUnlike.cls ≠ "java/lang/invoke/MethodHandle" ∧ yX7_firstUnlike.cls ≠ "java/lang/invoke/VarHandle") ∧ (parseMethodDescriptor yX7_firstUnlike.desc).map (fun d => d.parameters.length) = some 4 := by decide +kernel
theorem miX7_firstUnlike : Cond.instanceMethod yX7_firstUnlike ∈ ztb := ztb_in (List.mem_of_getElem? (i := 591) (by decide +kernel)) rfl
theorem meX7_firstUnlike : Cond.selects yX7_firstUnlike.cls yX7_firstUnlike yX7_firstUnlike ∈ ztb := ztb_in (List.mem_of_getElem? (i := 21) (by decide +kernel)) rfl
theorem mcX7_isBit : Cond.code yX7_isBit cX7_isBit 1 (some .boolean) ∈ ztb := ztb_in (List.mem_of_getElem? (i := 344) (by decide +kernel)) rfl
theorem mdX7_isBit : (yX7_isBit.cls ≠ "java/lang/invoke/MethodHandle" ∧ yX7_isBit.cls ≠ "java/lang/invoke/VarHandle") ∧ (parseMethodDescriptor yX7_isBit.desc).map (fun d => d.parameters.length) = some 1 := by decide +kernel
theorem msX7_isBit : Cond.static yX7_isBit ∈ ztb := ztb_in (List.mem_of_getElem? (i := 343) (by decide +kernel)) rfl
theorem mcX7_isFixedBy : Cond.code yX7_isFixedBy cX7_isFixedBy 6 (some .boolean) ∈ ztb := ztb_in (List.mem_of_getElem? (i := 576) (by decide +kernel)) rfl
theorem mdX7_isFixedBy : (yX7_isFixedBy.cls ≠ "java/lang/invoke/MethodHandle" ∧ yX7_isFixedBy.cls ≠ "java/lang/invoke/VarHandle") ∧ (parseMethodDescriptor yX7_isFixedBy.desc).map (fun d => d.parameters.length) = some 4 := by decide +kernel
theorem miX7_isFixedBy : Cond.instanceMethod yX7_isFixedBy ∈ ztb := ztb_in (List.mem_of_getElem? (i := 575) (by decide +kernel)) rfl
theorem meX7_isFixedBy : Cond.selects yX7_isFixedBy.cls yX7_isFixedBy yX7_isFixedBy ∈ ztb := ztb_in (List.mem_of_getElem? (i := 20) (by decide +kernel)) rfl
theorem mcX7_isInputFor : Cond.code yX7_isInputFor cX7_isInputFor 3 (some .boolean) ∈ ztb := ztb_in (List.mem_of_getElem? (i := 399) (by decide +kernel)) rfl
theorem mdX7_isInputFor : (yX7_isInputFor.cls ≠ "java/lang/invoke/MethodHandle" ∧ yX7_isInputFor.cls ≠ "java/lang/invoke/VarHandle") ∧ (parseMethodDescriptor yX7_isInputFor.desc).map (fun d => d.parameters.length) = some 2 := by decide +kernel
theorem miX7_isInputFor : Cond.instanceMethod yX7_isInputFor ∈ ztb := ztb_in (List.mem_of_getElem? (i := 398) (by decide +kernel)) rfl
theorem meX7_isInputFor : Cond.selects yX7_isInputFor.cls yX7_isInputFor yX7_isInputFor ∈ ztb := ztb_in (List.mem_of_getElem? (i := 4) (by decide +kernel)) rfl
theorem mcX7_isMaker : Cond.code yX7_isMaker cX7_isMaker 1 (some .boolean) ∈ ztb := ztb_in (List.mem_of_getElem? (i := 615) (by decide +kernel)) rfl
theorem mdX7_isMaker : (yX7_isMaker.cls ≠ "java/lang/invoke/MethodHandle" ∧ yX7_isMaker.cls ≠ "java/lang/invoke/VarHandle") ∧ (parseMethodDescriptor yX7_isMaker.desc).map (fun d => d.parameters.length) = some 1 := by decide +kernel
theorem msX7_isMaker : Cond.static yX7_isMaker ∈ ztb := ztb_in (List.mem_of_getElem? (i := 614) (by decide +kernel)) rfl
theorem mcX7_isPart : Cond.code yX7_isPart cX7_isPart 3 (some .boolean) ∈ ztb := ztb_in (List.mem_of_getElem? (i := 572) (by decide +kernel)) rfl
theorem mdX7_isPart : (yX7_isPart.cls ≠ "java/lang/invoke/MethodHandle" ∧ yX7_isPart.cls ≠ "java/lang/invoke/VarHandle") ∧ (parseMethodDescriptor yX7_isPart.desc).map (fun d => d.parameters.length) = some 3 := by decide +kernel
theorem msX7_isPart : Cond.static yX7_isPart ∈ ztb := ztb_in (List.mem_of_getElem? (i := 571) (by decide +kernel)) rfl
theorem mcX7_isRoom : Cond.code yX7_isRoom cX7_isRoom 1 (some .boolean) ∈ ztb := ztb_in (List.mem_of_getElem? (i := 354) (by decide +kernel)) rfl
theorem mdX7_isRoom : (yX7_isRoom.cls ≠ "java/lang/invoke/MethodHandle" ∧ yX7_isRoom.cls ≠ "java/lang/invoke/VarHandle") ∧ (parseMethodDescriptor yX7_isRoom.desc).map (fun d => d.parameters.length) = some 1 := by decide +kernel
theorem msX7_isRoom : Cond.static yX7_isRoom ∈ ztb := ztb_in (List.mem_of_getElem? (i := 353) (by decide +kernel)) rfl
theorem mcX7_isStep : Cond.code yX7_isStep cX7_isStep 2 (some .boolean) ∈ ztb := ztb_in (List.mem_of_getElem? (i := 395) (by decide +kernel)) rfl
theorem mdX7_isStep : (yX7_isStep.cls ≠ "java/lang/invoke/MethodHandle" ∧ yX7_isStep.cls ≠ "java/lang/invoke/VarHandle") ∧ (parseMethodDescriptor yX7_isStep.desc).map (fun d => d.parameters.length) = some 1 := by decide +kernel
theorem miX7_isStep : Cond.instanceMethod yX7_isStep ∈ ztb := ztb_in (List.mem_of_getElem? (i := 394) (by decide +kernel)) rfl
theorem meX7_isStep : Cond.selects yX7_isStep.cls yX7_isStep yX7_isStep ∈ ztb := ztb_in (List.mem_of_getElem? (i := 3) (by decide +kernel)) rfl
theorem mcX7_isText : Cond.code yX7_isText cX7_isText 2 (some .boolean) ∈ ztb := ztb_in (List.mem_of_getElem? (i := 337) (by decide +kernel)) rfl
theorem mdX7_isText : (yX7_isText.cls ≠ "java/lang/invoke/MethodHandle" ∧ yX7_isText.cls ≠ "java/lang/invoke/VarHandle") ∧ (parseMethodDescriptor yX7_isText.desc).map (fun d => d.parameters.length) = some 1 := by decide +kernel
theorem miX7_isText : Cond.instanceMethod yX7_isText ∈ ztb := ztb_in (List.mem_of_getElem? (i := 336) (by decide +kernel)) rfl
theorem meX7_isText : Cond.selects yX7_isText.cls yX7_isText yX7_isText ∈ ztb := ztb_in (List.mem_of_getElem? (i := 1) (by decide +kernel)) rfl
theorem mcX7_isWord : Cond.code yX7_isWord cX7_isWord 1 (some .boolean) ∈ ztb := ztb_in (List.mem_of_getElem? (i := 357) (by decide +kernel)) rfl
theorem mdX7_isWord : (yX7_isWord.cls ≠ "java/lang/invoke/MethodHandle" ∧ yX7_isWord.cls ≠ "java/lang/invoke/VarHandle") ∧ (parseMethodDescriptor yX7_isWord.desc).map (fun d => d.parameters.length) = some 1 := by decide +kernel
theorem msX7_isWord : Cond.static yX7_isWord ∈ ztb := ztb_in (List.mem_of_getElem? (i := 356) (by decide +kernel)) rfl
theorem mcX7_sameThing : Cond.code yX7_sameThing cX7_sameThing 2 (some .boolean) ∈ ztb := ztb_in (List.mem_of_getElem? (i := 519) (by decide +kernel)) rfl
theorem mdX7_sameThing : (yX7_sameThing.cls ≠ "java/lang/invoke/MethodHandle" ∧ yX7_sameThing.cls ≠ "java/lang/invoke/VarHandle") ∧ (parseMethodDescriptor yX7_sameThing.desc).map (fun d => d.parameters.length) = some 1 := by decide +kernel
theorem miX7_sameThing : Cond.instanceMethod yX7_sameThing ∈ ztb := ztb_in (List.mem_of_getElem? (i := 518) (by decide +kernel)) rfl
theorem meX7_sameThing : Cond.selects yX7_sameThing.cls yX7_sameThing yX7_sameThing ∈ ztb := ztb_in (List.mem_of_getElem? (i := 14) (by decide +kernel)) rfl
theorem mcX7_unlikeWords : Cond.code yX7_unlikeWords cX7_unlikeWords 5 (some .int) ∈ ztb := ztb_in (List.mem_of_getElem? (i := 368) (by decide +kernel)) rfl
theorem mdX7_unlikeWords : (yX7_unlikeWords.cls ≠ "java/lang/invoke/MethodHandle" ∧ yX7_unlikeWords.cls ≠ "java/lang/invoke/VarHandle") ∧ (parseMethodDescriptor yX7_unlikeWords.desc).map (fun d => d.parameters.length) = some 2 := by decide +kernel
theorem miX7_unlikeWords : Cond.instanceMethod yX7_unlikeWords ∈ ztb := ztb_in (List.mem_of_getElem? (i := 367) (by decide +kernel)) rfl
theorem meX7_unlikeWords : Cond.selects yX7_unlikeWords.cls yX7_unlikeWords yX7_unlikeWords ∈ ztb := ztb_in (List.mem_of_getElem? (i := 2) (by decide +kernel)) rfl
theorem mcX7_withBit : Cond.code yX7_withBit cX7_withBit 3 (some .int) ∈ ztb := ztb_in (List.mem_of_getElem? (i := 347) (by decide +kernel)) rfl
theorem mdX7_withBit : (yX7_withBit.cls ≠ "java/lang/invoke/MethodHandle" ∧ yX7_withBit.cls ≠ "java/lang/invoke/VarHandle") ∧ (parseMethodDescriptor yX7_withBit.desc).map (fun d => d.parameters.length) = some 3 := by decide +kernel
theorem msX7_withBit : Cond.static yX7_withBit ∈ ztb := ztb_in (List.mem_of_getElem? (i := 346) (by decide +kernel)) rfl
theorem mcX7_wordsUnlikeIn : Cond.code yX7_wordsUnlikeIn cX7_wordsUnlikeIn 5 (some .int) ∈ ztb := ztb_in (List.mem_of_getElem? (i := 604) (by decide +kernel)) rfl
theorem mdX7_wordsUnlikeIn : (yX7_wordsUnlikeIn.cls ≠ "java/lang/invoke/MethodHandle" ∧ yX7_wordsUnlikeIn.cls ≠ "java/lang/invoke/VarHandle") ∧ (parseMethodDescriptor yX7_wordsUnlikeIn.desc).map (fun d => d.parameters.length) = some 1 := by decide +kernel
theorem miX7_wordsUnlikeIn : Cond.instanceMethod yX7_wordsUnlikeIn ∈ ztb := ztb_in (List.mem_of_getElem? (i := 603) (by decide +kernel)) rfl
theorem meX7_wordsUnlikeIn : Cond.selects yX7_wordsUnlikeIn.cls yX7_wordsUnlikeIn yX7_wordsUnlikeIn ∈ ztb := ztb_in (List.mem_of_getElem? (i := 22) (by decide +kernel)) rfl
theorem mcX8_add : Cond.code yX8_add cX8_add 5 none ∈ ztb := ztb_in (List.mem_of_getElem? (i := 858) (by decide +kernel)) rfl
theorem mdX8_add : (yX8_add.cls ≠ "java/lang/invoke/MethodHandle" ∧ yX8_add.cls ≠ "java/lang/invoke/VarHandle") ∧ (parseMethodDescriptor yX8_add.desc).map (fun d => d.parameters.length) = some 2 := by decide +kernel
theorem miX8_add : Cond.instanceMethod yX8_add ∈ ztb := ztb_in (List.mem_of_getElem? (i := 857) (by decide +kernel)) rfl
theorem meX8_add : Cond.selects yX8_add.cls yX8_add yX8_add ∈ ztb := ztb_in (List.mem_of_getElem? (i := 32) (by decide +kernel)) rfl
theorem mcX8_areAlike : Cond.code yX8_areAlike cX8_areAlike 3 (some .boolean) ∈ ztb := ztb_in (List.mem_of_getElem? (i := 925) (by decide +kernel)) rfl
theorem mdX8_areAlike : (yX8_areAlike.cls ≠ "java/lang/invoke/MethodHandle" ∧ yX8_areAlike.cls ≠ "java/lang/invoke/VarHandle") ∧ (parseMethodDescriptor yX8_areAlike.desc).map (fun d => d.parameters.length) = some 1 := by decide +kernel
theorem miX8_areAlike : Cond.instanceMethod yX8_areAlike ∈ ztb := ztb_in (List.mem_of_getElem? (i := 924) (by decide +kernel)) rfl
theorem meX8_areAlike : Cond.selects yX8_areAlike.cls yX8_areAlike yX8_areAlike ∈ ztb := ztb_in (List.mem_of_getElem? (i := 41) (by decide +kernel)) rfl
theorem mcX8_areEnough : Cond.code yX8_areEnough cX8_areEnough 7 (some .boolean) ∈ ztb := ztb_in (List.mem_of_getElem? (i := 977) (by decide +kernel)) rfl
theorem mdX8_areEnough : (yX8_areEnough.cls ≠ "java/lang/invoke/MethodHandle" ∧ yX8_areEnough.cls ≠ "java/lang/invoke/VarHandle") ∧ (parseMethodDescriptor yX8_areEnough.desc).map (fun d => d.parameters.length) = some 2 := by decide +kernel
theorem miX8_areEnough : Cond.instanceMethod yX8_areEnough ∈ ztb := ztb_in (List.mem_of_getElem? (i := 976) (by decide +kernel)) rfl
theorem meX8_areEnough : Cond.selects yX8_areEnough.cls yX8_areEnough yX8_areEnough ∈ ztb := ztb_in (List.mem_of_getElem? (i := 47) (by decide +kernel)) rfl
theorem mcX8_bits : Cond.code yX8_bits cX8_bits 3 (some .int) ∈ ztb := ztb_in (List.mem_of_getElem? (i := 908) (by decide +kernel)) rfl
theorem mdX8_bits : (yX8_bits.cls ≠ "java/lang/invoke/MethodHandle" ∧ yX8_bits.cls ≠ "java/lang/invoke/VarHandle") ∧ (parseMethodDescriptor yX8_bits.desc).map (fun d => d.parameters.length) = some 1 := by decide +kernel
theorem msX8_bits : Cond.static yX8_bits ∈ ztb := ztb_in (List.mem_of_getElem? (i := 907) (by decide +kernel)) rfl
theorem mcX8_both : Cond.code yX8_both cX8_both 4 none ∈ ztb := ztb_in (List.mem_of_getElem? (i := 921) (by decide +kernel)) rfl
theorem mdX8_both : (yX8_both.cls ≠ "java/lang/invoke/MethodHandle" ∧ yX8_both.cls ≠ "java/lang/invoke/VarHandle") ∧ (parseMethodDescriptor yX8_both.desc).map (fun d => d.parameters.length) = some 3 := by decide +kernel
theorem miX8_both : Cond.instanceMethod yX8_both ∈ ztb := ztb_in (List.mem_of_getElem? (i := 920) (by decide +kernel)) rfl
theorem meX8_both : Cond.selects yX8_both.cls yX8_both yX8_both ∈ ztb := ztb_in (List.mem_of_getElem? (i := 40) (by decide +kernel)) rfl
theorem mcX8_breaking : Cond.code yX8_breaking cX8_breaking 6 (some .int) ∈ ztb := ztb_in (List.mem_of_getElem? (i := 965) (by decide +kernel)) rfl
theorem mdX8_breaking : (yX8_breaking.cls ≠ "java/lang/invoke/MethodHandle" ∧ yX8_breaking.cls ≠ "java/lang/invoke/VarHandle") ∧ (parseMethodDescriptor yX8_breaking.desc).map (fun d => d.parameters.length) = some 4 := by decide +kernel
theorem miX8_breaking : Cond.instanceMethod yX8_breaking ∈ ztb := ztb_in (List.mem_of_getElem? (i := 964) (by decide +kernel)) rfl
theorem meX8_breaking : Cond.selects yX8_breaking.cls yX8_breaking yX8_breaking ∈ ztb := ztb_in (List.mem_of_getElem? (i := 46) (by decide +kernel)) rfl
theorem mcX8_build : Cond.code yX8_build cX8_build 4 none ∈ ztb := ztb_in (List.mem_of_getElem? (i := 838) (by decide +kernel)) rfl
theorem mdX8_build : (yX8_build.cls ≠ "java/lang/invoke/MethodHandle" ∧ yX8_build.cls ≠ "java/lang/invoke/VarHandle") ∧ (parseMethodDescriptor yX8_build.desc).map (fun d => d.parameters.length) = some 2 := by decide +kernel
theorem miX8_build : Cond.instanceMethod yX8_build ∈ ztb := ztb_in (List.mem_of_getElem? (i := 837) (by decide +kernel)) rfl
theorem meX8_build : Cond.selects yX8_build.cls yX8_build yX8_build ∈ ztb := ztb_in (List.mem_of_getElem? (i := 27) (by decide +kernel)) rfl
theorem mcX8_byteOf : Cond.code yX8_byteOf cX8_byteOf 4 (some .int) ∈ ztb := ztb_in (List.mem_of_getElem? (i := 862) (by decide +kernel)) rfl
theorem mdX8_byteOf : (yX8_byteOf.cls ≠ "java/lang/invoke/MethodHandle" ∧ yX8_byteOf.cls ≠ "java/lang/invoke/VarHandle") ∧ (parseMethodDescriptor yX8_byteOf.desc).map (fun d => d.parameters.length) = some 3 := by decide +kernel
theorem miX8_byteOf : Cond.instanceMethod yX8_byteOf ∈ ztb := ztb_in (List.mem_of_getElem? (i := 861) (by decide +kernel)) rfl
theorem meX8_byteOf : Cond.selects yX8_byteOf.cls yX8_byteOf yX8_byteOf ∈ ztb := ztb_in (List.mem_of_getElem? (i := 33) (by decide +kernel)) rfl
theorem mcX8_downFrom : Cond.code yX8_downFrom cX8_downFrom 4 (some .int) ∈ ztb := ztb_in (List.mem_of_getElem? (i := 992) (by decide +kernel)) rfl
theorem mdX8_downFrom : (yX8_downFrom.cls ≠ "java/lang/invoke/MethodHandle" ∧ yX8_downFrom.cls ≠ "java/lang/invoke/VarHandle") ∧ (parseMethodDescriptor yX8_downFrom.desc).map (fun d => d.parameters.length) = some 1 := by decide +kernel
theorem miX8_downFrom : Cond.instanceMethod yX8_downFrom ∈ ztb := ztb_in (List.mem_of_getElem? (i := 991) (by decide +kernel)) rfl
theorem meX8_downFrom : Cond.selects yX8_downFrom.cls yX8_downFrom yX8_downFrom ∈ ztb := ztb_in (List.mem_of_getElem? (i := 48) (by decide +kernel)) rfl
theorem mcX8_findFar : Cond.code yX8_findFar cX8_findFar 9 none ∈ ztb := ztb_in (List.mem_of_getElem? (i := 933) (by decide +kernel)) rfl
theorem mdX8_findFar : (yX8_findFar.cls ≠ "java/lang/invoke/MethodHandle" ∧ yX8_findFar.cls ≠ "java/lang/invoke/VarHandle") ∧ (parseMethodDescriptor yX8_findFar.desc).map (fun d => d.parameters.length) = some 3 := by decide +kernel
theorem miX8_findFar : Cond.instanceMethod yX8_findFar ∈ ztb := ztb_in (List.mem_of_getElem? (i := 932) (by decide +kernel)) rfl
theorem meX8_findFar : Cond.selects yX8_findFar.cls yX8_findFar yX8_findFar ∈ ztb := ztb_in (List.mem_of_getElem? (i := 42) (by decide +kernel)) rfl
theorem mcX8_first : Cond.code yX8_first cX8_first 3 (some .int) ∈ ztb := ztb_in (List.mem_of_getElem? (i := 937) (by decide +kernel)) rfl
theorem mdX8_first : (yX8_first.cls ≠ "java/lang/invoke/MethodHandle" ∧ yX8_first.cls ≠ "java/lang/invoke/VarHandle") ∧ (parseMethodDescriptor yX8_first.desc).map (fun d => d.parameters.length) = some 2 := by decide +kernel
theorem miX8_first : Cond.instanceMethod yX8_first ∈ ztb := ztb_in (List.mem_of_getElem? (i := 936) (by decide +kernel)) rfl
theorem meX8_first : Cond.selects yX8_first.cls yX8_first yX8_first ∈ ztb := ztb_in (List.mem_of_getElem? (i := 43) (by decide +kernel)) rfl
theorem mcX8_in : Cond.code yX8_in cX8_in 3 (some .boolean) ∈ ztb := ztb_in (List.mem_of_getElem? (i := 780) (by decide +kernel)) rfl
theorem mdX8_in : (yX8_in.cls ≠ "java/lang/invoke/MethodHandle" ∧ yX8_in.cls ≠ "java/lang/invoke/VarHandle") ∧ (parseMethodDescriptor yX8_in.desc).map (fun d => d.parameters.length) = some 3 := by decide +kernel
theorem msX8_in : Cond.static yX8_in ∈ ztb := ztb_in (List.mem_of_getElem? (i := 779) (by decide +kernel)) rfl
theorem mcX8_isMaker : Cond.code yX8_isMaker cX8_isMaker 1 (some .boolean) ∈ ztb := ztb_in (List.mem_of_getElem? (i := 984) (by decide +kernel)) rfl
theorem mdX8_isMaker : (yX8_isMaker.cls ≠ "java/lang/invoke/MethodHandle" ∧ yX8_isMaker.cls ≠ "java/lang/invoke/VarHandle") ∧ (parseMethodDescriptor yX8_isMaker.desc).map (fun d => d.parameters.length) = some 1 := by decide +kernel
theorem msX8_isMaker : Cond.static yX8_isMaker ∈ ztb := ztb_in (List.mem_of_getElem? (i := 983) (by decide +kernel)) rfl
theorem mcX8_isReady : Cond.code yX8_isReady cX8_isReady 5 (some .boolean) ∈ ztb := ztb_in (List.mem_of_getElem? (i := 846) (by decide +kernel)) rfl
theorem mdX8_isReady : (yX8_isReady.cls ≠ "java/lang/invoke/MethodHandle" ∧ yX8_isReady.cls ≠ "java/lang/invoke/VarHandle") ∧ (parseMethodDescriptor yX8_isReady.desc).map (fun d => d.parameters.length) = some 2 := by decide +kernel
theorem miX8_isReady : Cond.instanceMethod yX8_isReady ∈ ztb := ztb_in (List.mem_of_getElem? (i := 845) (by decide +kernel)) rfl
theorem meX8_isReady : Cond.selects yX8_isReady.cls yX8_isReady yX8_isReady ∈ ztb := ztb_in (List.mem_of_getElem? (i := 29) (by decide +kernel)) rfl
theorem mcX8_isRoom : Cond.code yX8_isRoom cX8_isRoom 1 (some .boolean) ∈ ztb := ztb_in (List.mem_of_getElem? (i := 807) (by decide +kernel)) rfl
theorem mdX8_isRoom : (yX8_isRoom.cls ≠ "java/lang/invoke/MethodHandle" ∧ yX8_isRoom.cls ≠ "java/lang/invoke/VarHandle") ∧ (parseMethodDescriptor yX8_isRoom.desc).map (fun d => d.parameters.length) = some 1 := by decide +kernel
theorem msX8_isRoom : Cond.static yX8_isRoom ∈ ztb := ztb_in (List.mem_of_getElem? (i := 806) (by decide +kernel)) rfl
theorem mcX8_isStep : Cond.code yX8_isStep cX8_isStep 2 (some .boolean) ∈ ztb := ztb_in (List.mem_of_getElem? (i := 826) (by decide +kernel)) rfl
theorem mdX8_isStep : (yX8_isStep.cls ≠ "java/lang/invoke/MethodHandle" ∧ yX8_isStep.cls ≠ "java/lang/invoke/VarHandle") ∧ (parseMethodDescriptor yX8_isStep.desc).map (fun d => d.parameters.length) = some 1 := by decide +kernel
theorem miX8_isStep : Cond.instanceMethod yX8_isStep ∈ ztb := ztb_in (List.mem_of_getElem? (i := 825) (by decide +kernel)) rfl
theorem meX8_isStep : Cond.selects yX8_isStep.cls yX8_isStep yX8_isStep ∈ ztb := ztb_in (List.mem_of_getElem? (i := 25) (by decide +kernel)) rfl
theorem mcX8_isText : Cond.code yX8_isText cX8_isText 2 (some .boolean) ∈ ztb := ztb_in (List.mem_of_getElem? (i := 796) (by decide +kernel)) rfl
theorem mdX8_isText : (yX8_isText.cls ≠ "java/lang/invoke/MethodHandle" ∧ yX8_isText.cls ≠ "java/lang/invoke/VarHandle") ∧ (parseMethodDescriptor yX8_isText.desc).map (fun d => d.parameters.length) = some 1 := by decide +kernel
theorem miX8_isText : Cond.instanceMethod yX8_isText ∈ ztb := ztb_in (List.mem_of_getElem? (i := 795) (by decide +kernel)) rfl
theorem meX8_isText : Cond.selects yX8_isText.cls yX8_isText yX8_isText ∈ ztb := ztb_in (List.mem_of_getElem? (i := 24) (by decide +kernel)) rfl
theorem mcX8_isWord : Cond.code yX8_isWord cX8_isWord 1 (some .boolean) ∈ ztb := ztb_in (List.mem_of_getElem? (i := 810) (by decide +kernel)) rfl
theorem mdX8_isWord : (yX8_isWord.cls ≠ "java/lang/invoke/MethodHandle" ∧ yX8_isWord.cls ≠ "java/lang/invoke/VarHandle") ∧ (parseMethodDescriptor yX8_isWord.desc).map (fun d => d.parameters.length) = some 1 := by decide +kernel
theorem msX8_isWord : Cond.static yX8_isWord ∈ ztb := ztb_in (List.mem_of_getElem? (i := 809) (by decide +kernel)) rfl
theorem mcX8_join : Cond.code yX8_join cX8_join 6 none ∈ ztb := ztb_in (List.mem_of_getElem? (i := 854) (by decide +kernel)) rfl
theorem mdX8_join : (yX8_join.cls ≠ "java/lang/invoke/MethodHandle" ∧ yX8_join.cls ≠ "java/lang/invoke/VarHandle") ∧ (parseMethodDescriptor yX8_join.desc).map (fun d => d.parameters.length) = some 2 := by decide +kernel
theorem miX8_join : Cond.instanceMethod yX8_join ∈ ztb := ztb_in (List.mem_of_getElem? (i := 853) (by decide +kernel)) rfl
theorem meX8_join : Cond.selects yX8_join.cls yX8_join yX8_join ∈ ztb := ztb_in (List.mem_of_getElem? (i := 31) (by decide +kernel)) rfl
theorem mcX8_keep : Cond.code yX8_keep cX8_keep 4 (some .int) ∈ ztb := ztb_in (List.mem_of_getElem? (i := 788) (by decide +kernel)) rfl
theorem mdX8_keep : (yX8_keep.cls ≠ "java/lang/invoke/MethodHandle" ∧ yX8_keep.cls ≠ "java/lang/invoke/VarHandle") ∧ (parseMethodDescriptor yX8_keep.desc).map (fun d => d.parameters.length) = some 1 := by decide +kernel
theorem miX8_keep : Cond.instanceMethod yX8_keep ∈ ztb := ztb_in (List.mem_of_getElem? (i := 787) (by decide +kernel)) rfl
theorem meX8_keep : Cond.selects yX8_keep.cls yX8_keep yX8_keep ∈ ztb := ztb_in (List.mem_of_getElem? (i := 23) (by decide +kernel)) rfl
theorem mcX8_make : Cond.code yX8_make cX8_make 5 none ∈ ztb := ztb_in (List.mem_of_getElem? (i := 842) (by decide +kernel)) rfl
theorem mdX8_make : (yX8_make.cls ≠ "java/lang/invoke/MethodHandle" ∧ yX8_make.cls ≠ "java/lang/invoke/VarHandle") ∧ (parseMethodDescriptor yX8_make.desc).map (fun d => d.parameters.length) = some 2 := by decide +kernel
theorem miX8_make : Cond.instanceMethod yX8_make ∈ ztb := ztb_in (List.mem_of_getElem? (i := 841) (by decide +kernel)) rfl
theorem meX8_make : Cond.selects yX8_make.cls yX8_make yX8_make ∈ ztb := ztb_in (List.mem_of_getElem? (i := 28) (by decide +kernel)) rfl
theorem mcX8_note : Cond.code yX8_note cX8_note 4 none ∈ ztb := ztb_in (List.mem_of_getElem? (i := 945) (by decide +kernel)) rfl
theorem mdX8_note : (yX8_note.cls ≠ "java/lang/invoke/MethodHandle" ∧ yX8_note.cls ≠ "java/lang/invoke/VarHandle") ∧ (parseMethodDescriptor yX8_note.desc).map (fun d => d.parameters.length) = some 3 := by decide +kernel
theorem miX8_note : Cond.instanceMethod yX8_note ∈ ztb := ztb_in (List.mem_of_getElem? (i := 944) (by decide +kernel)) rfl
theorem meX8_note : Cond.selects yX8_note.cls yX8_note yX8_note ∈ ztb := ztb_in (List.mem_of_getElem? (i := 45) (by decide +kernel)) rfl
theorem mcX8_readBy : Cond.code yX8_readBy cX8_readBy 2 (some .int) ∈ ztb := ztb_in (List.mem_of_getElem? (i := 896) (by decide +kernel)) rfl
theorem mdX8_readBy : (yX8_readBy.cls ≠ "java/lang/invoke/MethodHandle" ∧ yX8_readBy.cls ≠ "java/lang/invoke/VarHandle") ∧ (parseMethodDescriptor yX8_readBy.desc).map (fun d => d.parameters.length) = some 1 := by decide +kernel
theorem miX8_readBy : Cond.instanceMethod yX8_readBy ∈ ztb := ztb_in (List.mem_of_getElem? (i := 895) (by decide +kernel)) rfl
theorem meX8_readBy : Cond.selects yX8_readBy.cls yX8_readBy yX8_readBy ∈ ztb := ztb_in (List.mem_of_getElem? (i := 39) (by decide +kernel)) rfl
theorem mcX8_second : Cond.code yX8_second cX8_second 3 (some .int) ∈ ztb := ztb_in (List.mem_of_getElem? (i := 941) (by decide +kernel)) rfl
theorem mdX8_second : (yX8_second.cls ≠ "java/lang/invoke/MethodHandle" ∧ yX8_second.cls ≠ "java/lang/invoke/VarHandle") ∧ (parseMethodDescriptor yX8_second.desc).map (fun d => d.parameters.length) = some 2 := by decide +kernel
theorem miX8_second : Cond.instanceMethod yX8_second ∈ ztb := ztb_in (List.mem_of_getElem? (i := 940) (by decide +kernel)) rfl
theorem meX8_second : Cond.selects yX8_second.cls yX8_second yX8_second ∈ ztb := ztb_in (List.mem_of_getElem? (i := 44) (by decide +kernel)) rfl
theorem mcX8_sign : Cond.code yX8_sign cX8_sign 3 none ∈ ztb := ztb_in (List.mem_of_getElem? (i := 874) (by decide +kernel)) rfl
theorem mdX8_sign : (yX8_sign.cls ≠ "java/lang/invoke/MethodHandle" ∧ yX8_sign.cls ≠ "java/lang/invoke/VarHandle") ∧ (parseMethodDescriptor yX8_sign.desc).map (fun d => d.parameters.length) = some 0 := by decide +kernel
theorem miX8_sign : Cond.instanceMethod yX8_sign ∈ ztb := ztb_in (List.mem_of_getElem? (i := 873) (by decide +kernel)) rfl
theorem meX8_sign : Cond.selects yX8_sign.cls yX8_sign yX8_sign ∈ ztb := ztb_in (List.mem_of_getElem? (i := 36) (by decide +kernel)) rfl
theorem mcX8_sizeOf : Cond.code yX8_sizeOf cX8_sizeOf 3 (some .int) ∈ ztb := ztb_in (List.mem_of_getElem? (i := 850) (by decide +kernel)) rfl
theorem mdX8_sizeOf : (yX8_sizeOf.cls ≠ "java/lang/invoke/MethodHandle" ∧ yX8_sizeOf.cls ≠ "java/lang/invoke/VarHandle") ∧ (parseMethodDescriptor yX8_sizeOf.desc).map (fun d => d.parameters.length) = some 2 := by decide +kernel
theorem miX8_sizeOf : Cond.instanceMethod yX8_sizeOf ∈ ztb := ztb_in (List.mem_of_getElem? (i := 849) (by decide +kernel)) rfl
theorem meX8_sizeOf : Cond.selects yX8_sizeOf.cls yX8_sizeOf yX8_sizeOf ∈ ztb := ztb_in (List.mem_of_getElem? (i := 30) (by decide +kernel)) rfl
theorem mcX8_sort : Cond.code yX8_sort cX8_sort 4 none ∈ ztb := ztb_in (List.mem_of_getElem? (i := 870) (by decide +kernel)) rfl
theorem mdX8_sort : (yX8_sort.cls ≠ "java/lang/invoke/MethodHandle" ∧ yX8_sort.cls ≠ "java/lang/invoke/VarHandle") ∧ (parseMethodDescriptor yX8_sort.desc).map (fun d => d.parameters.length) = some 0 := by decide +kernel
theorem miX8_sort : Cond.instanceMethod yX8_sort ∈ ztb := ztb_in (List.mem_of_getElem? (i := 869) (by decide +kernel)) rfl
theorem meX8_sort : Cond.selects yX8_sort.cls yX8_sort yX8_sort ∈ ztb := ztb_in (List.mem_of_getElem? (i := 35) (by decide +kernel)) rfl
theorem mcX8_strip : Cond.code yX8_strip cX8_strip 4 none ∈ ztb := ztb_in (List.mem_of_getElem? (i := 866) (by decide +kernel)) rfl
theorem mdX8_strip : (yX8_strip.cls ≠ "java/lang/invoke/MethodHandle" ∧ yX8_strip.cls ≠ "java/lang/invoke/VarHandle") ∧ (parseMethodDescriptor yX8_strip.desc).map (fun d => d.parameters.length) = some 1 := by decide +kernel
theorem miX8_strip : Cond.instanceMethod yX8_strip ∈ ztb := ztb_in (List.mem_of_getElem? (i := 865) (by decide +kernel)) rfl
theorem meX8_strip : Cond.selects yX8_strip.cls yX8_strip yX8_strip ∈ ztb := ztb_in (List.mem_of_getElem? (i := 34) (by decide +kernel)) rfl
theorem mcX8_take : Cond.code yX8_take cX8_take 3 none ∈ ztb := ztb_in (List.mem_of_getElem? (i := 834) (by decide +kernel)) rfl
theorem mdX8_take : (yX8_take.cls ≠ "java/lang/invoke/MethodHandle" ∧ yX8_take.cls ≠ "java/lang/invoke/VarHandle") ∧ (parseMethodDescriptor yX8_take.desc).map (fun d => d.parameters.length) = some 1 := by decide +kernel
theorem miX8_take : Cond.instanceMethod yX8_take ∈ ztb := ztb_in (List.mem_of_getElem? (i := 833) (by decide +kernel)) rfl
theorem meX8_take : Cond.selects yX8_take.cls yX8_take yX8_take ∈ ztb := ztb_in (List.mem_of_getElem? (i := 26) (by decide +kernel)) rfl
theorem mcX8_usedBy : Cond.code yX8_usedBy cX8_usedBy 5 (some .int) ∈ ztb := ztb_in (List.mem_of_getElem? (i := 892) (by decide +kernel)) rfl
theorem mdX8_usedBy : (yX8_usedBy.cls ≠ "java/lang/invoke/MethodHandle" ∧ yX8_usedBy.cls ≠ "java/lang/invoke/VarHandle") ∧ (parseMethodDescriptor yX8_usedBy.desc).map (fun d => d.parameters.length) = some 1 := by decide +kernel
theorem miX8_usedBy : Cond.instanceMethod yX8_usedBy ∈ ztb := ztb_in (List.mem_of_getElem? (i := 891) (by decide +kernel)) rfl
theorem meX8_usedBy : Cond.selects yX8_usedBy.cls yX8_usedBy yX8_usedBy ∈ ztb := ztb_in (List.mem_of_getElem? (i := 38) (by decide +kernel)) rfl
theorem mcX8_walk : Cond.code yX8_walk cX8_walk 3 (some .int) ∈ ztb := ztb_in (List.mem_of_getElem? (i := 1000) (by decide +kernel)) rfl
theorem mdX8_walk : (yX8_walk.cls ≠ "java/lang/invoke/MethodHandle" ∧ yX8_walk.cls ≠ "java/lang/invoke/VarHandle") ∧ (parseMethodDescriptor yX8_walk.desc).map (fun d => d.parameters.length) = some 1 := by decide +kernel
theorem miX8_walk : Cond.instanceMethod yX8_walk ∈ ztb := ztb_in (List.mem_of_getElem? (i := 999) (by decide +kernel)) rfl
theorem meX8_walk : Cond.selects yX8_walk.cls yX8_walk yX8_walk ∈ ztb := ztb_in (List.mem_of_getElem? (i := 49) (by decide +kernel)) rfl
theorem mcX8_wordsOf : Cond.code yX8_wordsOf cX8_wordsOf 7 (some .int) ∈ ztb := ztb_in (List.mem_of_getElem? (i := 888) (by decide +kernel)) rfl
theorem mdX8_wordsOf : (yX8_wordsOf.cls ≠ "java/lang/invoke/MethodHandle" ∧ yX8_wordsOf.cls ≠ "java/lang/invoke/VarHandle") ∧ (parseMethodDescriptor yX8_wordsOf.desc).map (fun d => d.parameters.length) = some 3 := by decide +kernel
theorem miX8_wordsOf : Cond.instanceMethod yX8_wordsOf ∈ ztb := ztb_in (List.mem_of_getElem? (i := 887) (by decide +kernel)) rfl
theorem meX8_wordsOf : Cond.selects yX8_wordsOf.cls yX8_wordsOf yX8_wordsOf ∈ ztb := ztb_in (List.mem_of_getElem? (i := 37) (by decide +kernel)) rfl
theorem mzJ6 : Cond.initialized RJ6 ∈ ztb := ztb_in (List.mem_of_getElem? (i := 63) (by decide +kernel)) rfl
theorem mzJ7 : Cond.initialized RJ7 ∈ ztb := ztb_in (List.mem_of_getElem? (i := 60) (by decide +kernel)) rfl
theorem mzJ9 : Cond.initialized RJ9 ∈ ztb := ztb_in (List.mem_of_getElem? (i := 54) (by decide +kernel)) rfl
theorem mzX0 : Cond.initialized RX0 ∈ ztb := ztb_in (List.mem_of_getElem? (i := 57) (by decide +kernel)) rfl
theorem mzX1 : Cond.initialized RX1 ∈ ztb := ztb_in (List.mem_of_getElem? (i := 56) (by decide +kernel)) rfl
theorem mzX2 : Cond.initialized RX2 ∈ ztb := ztb_in (List.mem_of_getElem? (i := 59) (by decide +kernel)) rfl
theorem mzX3 : Cond.initialized RX3 ∈ ztb := ztb_in (List.mem_of_getElem? (i := 58) (by decide +kernel)) rfl
theorem mzX4 : Cond.initialized RX4 ∈ ztb := ztb_in (List.mem_of_getElem? (i := 55) (by decide +kernel)) rfl
theorem mzX5 : Cond.initialized RX5 ∈ ztb := ztb_in (List.mem_of_getElem? (i := 53) (by decide +kernel)) rfl
theorem mzX6 : Cond.initialized RX6 ∈ ztb := ztb_in (List.mem_of_getElem? (i := 52) (by decide +kernel)) rfl
theorem mzX7 : Cond.initialized RX7 ∈ ztb := ztb_in (List.mem_of_getElem? (i := 51) (by decide +kernel)) rfl
theorem mzX8 : Cond.initialized RX8 ∈ ztb := ztb_in (List.mem_of_getElem? (i := 61) (by decide +kernel)) rfl
theorem mlX0_30 : zMS RX0 30 yX0_likeAhead cX0_likeAhead 4 (some .int) 2 := ⟨⟨ztb_in (List.mem_of_getElem? (i := 532) (by decide +kernel)) rfl, mzX0, mcX0_likeAhead, mdX0_likeAhead.1, mdX0_likeAhead.2⟩, msX0_likeAhead⟩
theorem mlX0_34 : zMV RX0 34 yX0_chooseMoves cX0_chooseMoves 7 none 3 0 := ⟨⟨ztb_in (List.mem_of_getElem? (i := 538) (by decide +kernel)) rfl, mzX0, mcX0_chooseMoves, mdX0_chooseMoves.1, mdX0_chooseMoves.2⟩, miX0_chooseMoves, meX0_chooseMoves, rfl, by decide⟩
theorem mlX0_38 : zMV RX0 38 yX0_follow cX0_follow 8 none 3 0 := ⟨⟨ztb_in (List.mem_of_getElem? (i := 546) (by decide +kernel)) rfl, mzX0, mcX0_follow, mdX0_follow.1, mdX0_follow.2⟩, miX0_follow, meX0_follow, rfl, by decide⟩
theorem mlX0_47 : zMS RX0 47 yJ9_min_7cf53 cJ9_min_7cf53 2 (some .int) 2 := ⟨⟨ztb_in (List.mem_of_getElem? (i := 535) (by decide +kernel)) rfl, mzJ9, mcJ9_min_7cf53, mdJ9_min_7cf53.1, mdJ9_min_7cf53.2⟩, msJ9_min_7cf53⟩
theorem mlX0_56 : zMV RX0 56 yX0_chooseMove cX0_chooseMove 10 none 3 0 := ⟨⟨ztb_in (List.mem_of_getElem? (i := 542) (by decide +kernel)) rfl, mzX0, mcX0_chooseMove, mdX0_chooseMove.1, mdX0_chooseMove.2⟩, miX0_chooseMove, meX0_chooseMove, rfl, by decide⟩
theorem mlX0_61 : zMV RX0 61 yX0_moveAt cX0_moveAt 6 (some .int) 4 0 := ⟨⟨ztb_in (List.mem_of_getElem? (i := 550) (by decide +kernel)) rfl, mzX0, mcX0_moveAt, mdX0_moveAt.1, mdX0_moveAt.2⟩, miX0_moveAt, meX0_moveAt, rfl, by decide⟩
theorem mlX0_65 : zMV RX0 65 yX0_note cX0_note 4 none 3 0 := ⟨⟨ztb_in (List.mem_of_getElem? (i := 554) (by decide +kernel)) rfl, mzX0, mcX0_note, mdX0_note.1, mdX0_note.2⟩, miX0_note, meX0_note, rfl, by decide⟩
theorem mlX1_36 : zMI RX1 36 yX5_init cX5_init 2 1 := ⟨Or.inl ⟨ztb_in (List.mem_of_getElem? (i := 182) (by decide +kernel)) rfl, mzX5, mcX5_init, mdX5_init.1, mdX5_init.2⟩, by decide +kernel, miX5_init⟩
theorem mlX1_49 : zMV RX1 49 yX1_open cX1_open 2 none 1 1 := ⟨⟨ztb_in (List.mem_of_getElem? (i := 412) (by decide +kernel)) rfl, mzX1, mcX1_open, mdX1_open.1, mdX1_open.2⟩, miX1_open, meX1_open, rfl, by decide⟩
theorem mlX1_58 : zMV RX1 58 yX1_make cX1_make 3 none 1 1 := ⟨⟨ztb_in (List.mem_of_getElem? (i := 417) (by decide +kernel)) rfl, mzX1, mcX1_make, mdX1_make.1, mdX1_make.2⟩, miX1_make, meX1_make, rfl, by decide⟩
theorem mlX1_61 : zMV RX1 61 yX4_stepsReachedBy cX4_stepsReachedBy 4 (some .int) 1 4 := ⟨⟨ztb_in (List.mem_of_getElem? (i := 581) (by decide +kernel)) rfl, mzX4, mcX4_stepsReachedBy, mdX4_stepsReachedBy.1, mdX4_stepsReachedBy.2⟩, miX4_stepsReachedBy, meX4_stepsReachedBy, rfl, by decide⟩
theorem mlX1_69 : zMV RX1 69 yX1_hasGoodInputs cX1_hasGoodInputs 4 (some .boolean) 1 1 := ⟨⟨ztb_in (List.mem_of_getElem? (i := 421) (by decide +kernel)) rfl, mzX1, mcX1_hasGoodInputs, mdX1_hasGoodInputs.1, mdX1_hasGoodInputs.2⟩, miX1_hasGoodInputs, meX1_hasGoodInputs, rfl, by decide⟩
theorem mlX1_73 : zMV RX1 73 yX1_runTool cX1_runTool 6 (some .boolean) 2 1 := ⟨⟨ztb_in (List.mem_of_getElem? (i := 429) (by decide +kernel)) rfl, mzX1, mcX1_runTool, mdX1_runTool.1, mdX1_runTool.2⟩, miX1_runTool, meX1_runTool, rfl, by decide⟩
theorem mlX1_77 : zMV RX1 77 yX4_ownWord cX4_ownWord 3 (some .int) 1 4 := ⟨⟨ztb_in (List.mem_of_getElem? (i := 471) (by decide +kernel)) rfl, mzX4, mcX4_ownWord, mdX4_ownWord.1, mdX4_ownWord.2⟩, miX4_ownWord, meX4_ownWord, rfl, by decide⟩
theorem mlX1_83 : zMV RX1 83 yX4_input cX4_input 3 (some .int) 2 4 := ⟨⟨ztb_in (List.mem_of_getElem? (i := 425) (by decide +kernel)) rfl, mzX4, mcX4_input, mdX4_input.1, mdX4_input.2⟩, miX4_input, meX4_input, rfl, by decide⟩
theorem mlX1_104 : zMV RX1 104 yX1_inputRow cX1_inputRow 4 (some (.object "BuiltTwice$Row")) 2 1 := ⟨⟨ztb_in (List.mem_of_getElem? (i := 433) (by decide +kernel)) rfl, mzX1, mcX1_inputRow, mdX1_inputRow.1, mdX1_inputRow.2⟩, miX1_inputRow, meX1_inputRow, rfl, by decide⟩
theorem mlX1_108 : zMV RX1 108 yX5_append cX5_append 2 (some .boolean) 1 5 := ⟨⟨ztb_in (List.mem_of_getElem? (i := 437) (by decide +kernel)) rfl, mzX5, mcX5_append, mdX5_append.1, mdX5_append.2⟩, miX5_append, meX5_append, rfl, by decide⟩
theorem mlX1_112 : zMV RX1 112 yX1_join cX1_join 6 (some .boolean) 3 1 := ⟨⟨ztb_in (List.mem_of_getElem? (i := 438) (by decide +kernel)) rfl, mzX1, mcX1_join, mdX1_join.1, mdX1_join.2⟩, miX1_join, meX1_join, rfl, by decide⟩
theorem mlX1_116 : zMV RX1 116 yX5_put cX5_put 2 (some .boolean) 1 5 := ⟨⟨ztb_in (List.mem_of_getElem? (i := 442) (by decide +kernel)) rfl, mzX5, mcX5_put, mdX5_put.1, mdX5_put.2⟩, miX5_put, meX5_put, rfl, by decide⟩
theorem mlX1_119 : zMS RX1 119 yX1_strip cX1_strip 4 none 2 := ⟨⟨ztb_in (List.mem_of_getElem? (i := 443) (by decide +kernel)) rfl, mzX1, mcX1_strip, mdX1_strip.1, mdX1_strip.2⟩, msX1_strip⟩
theorem mlX1_123 : zMS RX1 123 yX1_mask cX1_mask 3 none 2 := ⟨⟨ztb_in (List.mem_of_getElem? (i := 446) (by decide +kernel)) rfl, mzX1, mcX1_mask, mdX1_mask.1, mdX1_mask.2⟩, msX1_mask⟩
theorem mlX1_126 : zMV RX1 126 yX1_sort cX1_sort 4 none 1 1 := ⟨⟨ztb_in (List.mem_of_getElem? (i := 449) (by decide +kernel)) rfl, mzX1, mcX1_sort, mdX1_sort.1, mdX1_sort.2⟩, miX1_sort, meX1_sort, rfl, by decide⟩
theorem mlX1_130 : zMS RX1 130 yX1_sign cX1_sign 3 none 1 := ⟨⟨ztb_in (List.mem_of_getElem? (i := 454) (by decide +kernel)) rfl, mzX1, mcX1_sign, mdX1_sign.1, mdX1_sign.2⟩, msX1_sign⟩
theorem mlX1_136 : zMS RX1 136 yJ7_fill_53178 cJ7_fill_53178 4 none 2 := ⟨⟨ztb_in (List.mem_of_getElem? (i := 453) (by decide +kernel)) rfl, mzJ7, mcJ7_fill_53178, mdJ7_fill_53178.1, mdJ7_fill_53178.2⟩, msJ7_fill_53178⟩
theorem mlX2_18 : zMS RX2 18 yJ7_fill_53178 cJ7_fill_53178 4 none 2 := ⟨⟨ztb_in (List.mem_of_getElem? (i := 263) (by decide +kernel)) rfl, mzJ7, mcJ7_fill_53178, mdJ7_fill_53178.1, mdJ7_fill_53178.2⟩, msJ7_fill_53178⟩
theorem mlX2_24 : zMV RX2 24 yX2_way cX2_way 5 (some .int) 1 2 := ⟨⟨ztb_in (List.mem_of_getElem? (i := 624) (by decide +kernel)) rfl, mzX2, mcX2_way, mdX2_way.1, mdX2_way.2⟩, miX2_way, meX2_way, rfl, by decide⟩
theorem mlX2_28 : zMS RX2 28 yJ6_bitCount_0f7a4 cJ6_bitCount_0f7a4 1 (some .int) 1 := ⟨⟨ztb_in (List.mem_of_getElem? (i := 628) (by decide +kernel)) rfl, mzJ6, mcJ6_bitCount_0f7a4, mdJ6_bitCount_0f7a4.1, mdJ6_bitCount_0f7a4.2⟩, msJ6_bitCount_0f7a4⟩
theorem mlX2_33 : zMV RX2 33 yX2_after cX2_after 5 (some .int) 2 2 := ⟨⟨ztb_in (List.mem_of_getElem? (i := 629) (by decide +kernel)) rfl, mzX2, mcX2_after, mdX2_after.1, mdX2_after.2⟩, miX2_after, meX2_after, rfl, by decide⟩
theorem mlX3_22 : zMV RX3 22 yX3_numberOthers cX3_numberOthers 5 (some .int) 2 3 := ⟨⟨ztb_in (List.mem_of_getElem? (i := 486) (by decide +kernel)) rfl, mzX3, mcX3_numberOthers, mdX3_numberOthers.1, mdX3_numberOthers.2⟩, miX3_numberOthers, meX3_numberOthers, rfl, by decide⟩
theorem mlX3_26 : zMS RX3 26 yJ7_fill_d0a16 cJ7_fill_d0a16 5 none 2 := ⟨⟨ztb_in (List.mem_of_getElem? (i := 495) (by decide +kernel)) rfl, mzJ7, mcJ7_fill_d0a16, mdJ7_fill_d0a16.1, mdJ7_fill_d0a16.2⟩, msJ7_fill_d0a16⟩
theorem mlX3_32 : zMV RX3 32 yX3_doOneMore cX3_doOneMore 4 none 2 3 := ⟨⟨ztb_in (List.mem_of_getElem? (i := 498) (by decide +kernel)) rfl, mzX3, mcX3_doOneMore, mdX3_doOneMore.1, mdX3_doOneMore.2⟩, miX3_doOneMore, meX3_doOneMore, rfl, by decide⟩
theorem mlX3_41 : zMV RX3 41 yX3_numberedInputs cX3_numberedInputs 6 (some .int) 2 3 := ⟨⟨ztb_in (List.mem_of_getElem? (i := 490) (by decide +kernel)) rfl, mzX3, mcX3_numberedInputs, mdX3_numberedInputs.1, mdX3_numberedInputs.2⟩, miX3_numberedInputs, meX3_numberedInputs, rfl, by decide⟩
theorem mlX3_47 : zMV RX3 47 yX4_input cX4_input 3 (some .int) 2 4 := ⟨⟨ztb_in (List.mem_of_getElem? (i := 494) (by decide +kernel)) rfl, mzX4, mcX4_input, mdX4_input.1, mdX4_input.2⟩, miX4_input, meX4_input, rfl, by decide⟩
theorem mlX4_40 : zMV RX4 40 yX4_ownWord cX4_ownWord 3 (some .int) 1 4 := ⟨⟨ztb_in (List.mem_of_getElem? (i := 384) (by decide +kernel)) rfl, mzX4, mcX4_ownWord, mdX4_ownWord.1, mdX4_ownWord.2⟩, miX4_ownWord, meX4_ownWord, rfl, by decide⟩
theorem mlX5_13 : zMS RX5 13 yJ9_max_7cf53 cJ9_max_7cf53 2 (some .int) 2 := ⟨⟨ztb_in (List.mem_of_getElem? (i := 84) (by decide +kernel)) rfl, mzJ9, mcJ9_max_7cf53, mdJ9_max_7cf53.1, mdJ9_max_7cf53.2⟩, msJ9_max_7cf53⟩
theorem mlX5_23 : zMV RX5 23 yX5_makeSpaceFor cX5_makeSpaceFor 2 (some .boolean) 1 5 := ⟨⟨ztb_in (List.mem_of_getElem? (i := 311) (by decide +kernel)) rfl, mzX5, mcX5_makeSpaceFor, mdX5_makeSpaceFor.1, mdX5_makeSpaceFor.2⟩, miX5_makeSpaceFor, meX5_makeSpaceFor, rfl, by decide⟩
theorem mlX6_11 : zMI RX6 11 yX5_init cX5_init 2 1 := ⟨Or.inl ⟨ztb_in (List.mem_of_getElem? (i := 80) (by decide +kernel)) rfl, mzX5, mcX5_init, mdX5_init.1, mdX5_init.2⟩, by decide +kernel, miX5_init⟩
theorem mlX6_28 : zMV RX6 28 yX5_append cX5_append 2 (some .boolean) 1 5 := ⟨⟨ztb_in (List.mem_of_getElem? (i := 323) (by decide +kernel)) rfl, mzX5, mcX5_append, mdX5_append.1, mdX5_append.2⟩, miX5_append, meX5_append, rfl, by decide⟩
theorem mlX7_9 : zMI RX7 9 yX6_init cX6_init 2 0 := ⟨Or.inl ⟨ztb_in (List.mem_of_getElem? (i := 74) (by decide +kernel)) rfl, mzX6, mcX6_init, mdX6_init.1, mdX6_init.2⟩, by decide +kernel, miX6_init⟩
theorem mlX7_18 : zMI RX7 18 yX4_init cX4_init 1 0 := ⟨Or.inr ⟨⟨"BuiltTwice", ztb_in (List.mem_of_getElem? (i := 124) (by decide +kernel)) rfl⟩, mzX4, mcX4_init, mdX4_init.1, mdX4_init.2⟩, by decide +kernel, miX4_init⟩
theorem mlX7_30 : zMI RX7 30 yX1_init cX1_init 4 2 := ⟨Or.inl ⟨ztb_in (List.mem_of_getElem? (i := 177) (by decide +kernel)) rfl, mzX1, mcX1_init, mdX1_init.1, mdX1_init.2⟩, by decide +kernel, miX1_init⟩
theorem mlX7_42 : zMI RX7 42 yX0_init cX0_init 1 0 := ⟨Or.inr ⟨⟨"BuiltTwice", ztb_in (List.mem_of_getElem? (i := 210) (by decide +kernel)) rfl⟩, mzX0, mcX0_init, mdX0_init.1, mdX0_init.2⟩, by decide +kernel, miX0_init⟩
theorem mlX7_49 : zMI RX7 49 yX3_init cX3_init 1 0 := ⟨Or.inr ⟨⟨"BuiltTwice", ztb_in (List.mem_of_getElem? (i := 242) (by decide +kernel)) rfl⟩, mzX3, mcX3_init, mdX3_init.1, mdX3_init.2⟩, by decide +kernel, miX3_init⟩
theorem mlX7_56 : zMI RX7 56 yX2_init cX2_init 1 0 := ⟨Or.inl ⟨ztb_in (List.mem_of_getElem? (i := 259) (by decide +kernel)) rfl, mzX2, mcX2_init, mdX2_init.1, mdX2_init.2⟩, by decide +kernel, miX2_init⟩
theorem mlX7_71 : zMV RX7 71 yX5_put cX5_put 2 (some .boolean) 1 5 := ⟨⟨ztb_in (List.mem_of_getElem? (i := 307) (by decide +kernel)) rfl, mzX5, mcX5_put, mdX5_put.1, mdX5_put.2⟩, miX5_put, meX5_put, rfl, by decide⟩
theorem mlX7_76 : zMV RX7 76 yX6_tapeTo cX6_tapeTo 2 (some .int) 1 6 := ⟨⟨ztb_in (List.mem_of_getElem? (i := 319) (by decide +kernel)) rfl, mzX6, mcX6_tapeTo, mdX6_tapeTo.1, mdX6_tapeTo.2⟩, miX6_tapeTo, meX6_tapeTo, rfl, by decide⟩
theorem mlX7_80 : zMV RX7 80 yX7_isText cX7_isText 2 (some .boolean) 1 7 := ⟨⟨ztb_in (List.mem_of_getElem? (i := 334) (by decide +kernel)) rfl, mzX7, mcX7_isText, mdX7_isText.1, mdX7_isText.2⟩, miX7_isText, meX7_isText, rfl, by decide⟩
theorem mlX7_83 : zMS RX7 83 yX7_isBit cX7_isBit 1 (some .boolean) 1 := ⟨⟨ztb_in (List.mem_of_getElem? (i := 342) (by decide +kernel)) rfl, mzX7, mcX7_isBit, mdX7_isBit.1, mdX7_isBit.2⟩, msX7_isBit⟩
theorem mlX7_89 : zMS RX7 89 yX7_withBit cX7_withBit 3 (some .int) 3 := ⟨⟨ztb_in (List.mem_of_getElem? (i := 345) (by decide +kernel)) rfl, mzX7, mcX7_withBit, mdX7_withBit.1, mdX7_withBit.2⟩, msX7_withBit⟩
theorem mlX7_93 : zMS RX7 93 yX7_isRoom cX7_isRoom 1 (some .boolean) 1 := ⟨⟨ztb_in (List.mem_of_getElem? (i := 352) (by decide +kernel)) rfl, mzX7, mcX7_isRoom, mdX7_isRoom.1, mdX7_isRoom.2⟩, msX7_isRoom⟩
theorem mlX7_96 : zMS RX7 96 yX7_isWord cX7_isWord 1 (some .boolean) 1 := ⟨⟨ztb_in (List.mem_of_getElem? (i := 355) (by decide +kernel)) rfl, mzX7, mcX7_isWord, mdX7_isWord.1, mdX7_isWord.2⟩, msX7_isWord⟩
theorem mlX7_99 : zMS RX7 99 yX7_areRooms cX7_areRooms 2 (some .boolean) 2 := ⟨⟨ztb_in (List.mem_of_getElem? (i := 362) (by decide +kernel)) rfl, mzX7, mcX7_areRooms, mdX7_areRooms.1, mdX7_areRooms.2⟩, msX7_areRooms⟩
theorem mlX7_103 : zMV RX7 103 yX7_unlikeWords cX7_unlikeWords 5 (some .int) 2 7 := ⟨⟨ztb_in (List.mem_of_getElem? (i := 365) (by decide +kernel)) rfl, mzX7, mcX7_unlikeWords, mdX7_unlikeWords.1, mdX7_unlikeWords.2⟩, miX7_unlikeWords, meX7_unlikeWords, rfl, by decide⟩
theorem mlX7_107 : zMS RX7 107 yJ6_bitCount_0f7a4 cJ6_bitCount_0f7a4 1 (some .int) 1 := ⟨⟨ztb_in (List.mem_of_getElem? (i := 369) (by decide +kernel)) rfl, mzJ6, mcJ6_bitCount_0f7a4, mdJ6_bitCount_0f7a4.1, mdJ6_bitCount_0f7a4.2⟩, msJ6_bitCount_0f7a4⟩
theorem mlX7_119 : zMV RX7 119 yX4_addStep cX4_addStep 5 (some .int) 3 4 := ⟨⟨ztb_in (List.mem_of_getElem? (i := 380) (by decide +kernel)) rfl, mzX4, mcX4_addStep, mdX4_addStep.1, mdX4_addStep.2⟩, miX4_addStep, meX4_addStep, rfl, by decide⟩
theorem mlX7_122 : zMV RX7 122 yX7_isStep cX7_isStep 2 (some .boolean) 1 7 := ⟨⟨ztb_in (List.mem_of_getElem? (i := 392) (by decide +kernel)) rfl, mzX7, mcX7_isStep, mdX7_isStep.1, mdX7_isStep.2⟩, miX7_isStep, meX7_isStep, rfl, by decide⟩
theorem mlX7_125 : zMV RX7 125 yX7_isInputFor cX7_isInputFor 3 (some .boolean) 2 7 := ⟨⟨ztb_in (List.mem_of_getElem? (i := 396) (by decide +kernel)) rfl, mzX7, mcX7_isInputFor, mdX7_isInputFor.1, mdX7_isInputFor.2⟩, miX7_isInputFor, meX7_isInputFor, rfl, by decide⟩
theorem mlX7_135 : zMV RX7 135 yX4_addInput cX4_addInput 4 (some .int) 2 4 := ⟨⟨ztb_in (List.mem_of_getElem? (i := 400) (by decide +kernel)) rfl, mzX4, mcX4_addInput, mdX4_addInput.1, mdX4_addInput.2⟩, miX4_addInput, meX4_addInput, rfl, by decide⟩
theorem mlX7_138 : zMV RX7 138 yX1_makeIn cX1_makeIn 3 none 2 1 := ⟨⟨ztb_in (List.mem_of_getElem? (i := 408) (by decide +kernel)) rfl, mzX1, mcX1_makeIn, mdX1_makeIn.1, mdX1_makeIn.2⟩, miX1_makeIn, meX1_makeIn, rfl, by decide⟩
theorem mlX7_156 : zMV RX7 156 yX1_wordsRead cX1_wordsRead 4 (some .int) 1 1 := ⟨⟨ztb_in (List.mem_of_getElem? (i := 467) (by decide +kernel)) rfl, mzX1, mcX1_wordsRead, mdX1_wordsRead.1, mdX1_wordsRead.2⟩, miX1_wordsRead, meX1_wordsRead, rfl, by decide⟩
theorem mlX7_166 : zMV RX7 166 yX3_ordersOf cX3_ordersOf 6 (some .long) 2 3 := ⟨⟨ztb_in (List.mem_of_getElem? (i := 482) (by decide +kernel)) rfl, mzX3, mcX3_ordersOf, mdX3_ordersOf.1, mdX3_ordersOf.2⟩, miX3_ordersOf, meX3_ordersOf, rfl, by decide⟩
theorem mlX7_170 : zMV RX7 170 yX1_open cX1_open 2 none 1 1 := ⟨⟨ztb_in (List.mem_of_getElem? (i := 506) (by decide +kernel)) rfl, mzX1, mcX1_open, mdX1_open.1, mdX1_open.2⟩, miX1_open, meX1_open, rfl, by decide⟩
theorem mlX7_174 : zMV RX7 174 yX1_make cX1_make 3 none 1 1 := ⟨⟨ztb_in (List.mem_of_getElem? (i := 507) (by decide +kernel)) rfl, mzX1, mcX1_make, mdX1_make.1, mdX1_make.2⟩, miX1_make, meX1_make, rfl, by decide⟩
theorem mlX7_178 : zMV RX7 178 yX7_buildBoth cX7_buildBoth 4 none 3 7 := ⟨⟨ztb_in (List.mem_of_getElem? (i := 512) (by decide +kernel)) rfl, mzX7, mcX7_buildBoth, mdX7_buildBoth.1, mdX7_buildBoth.2⟩, miX7_buildBoth, meX7_buildBoth, rfl, by decide⟩
theorem mlX7_182 : zMV RX7 182 yX7_sameThing cX7_sameThing 2 (some .boolean) 1 7 := ⟨⟨ztb_in (List.mem_of_getElem? (i := 516) (by decide +kernel)) rfl, mzX7, mcX7_sameThing, mdX7_sameThing.1, mdX7_sameThing.2⟩, miX7_sameThing, meX7_sameThing, rfl, by decide⟩
theorem mlX7_185 : zMV RX7 185 yX0_lay cX0_lay 4 none 2 0 := ⟨⟨ztb_in (List.mem_of_getElem? (i := 528) (by decide +kernel)) rfl, mzX0, mcX0_lay, mdX0_lay.1, mdX0_lay.2⟩, miX0_lay, meX0_lay, rfl, by decide⟩
theorem mlX7_202 : zMS RX7 202 yX7_isPart cX7_isPart 3 (some .boolean) 3 := ⟨⟨ztb_in (List.mem_of_getElem? (i := 570) (by decide +kernel)) rfl, mzX7, mcX7_isPart, mdX7_isPart.1, mdX7_isPart.2⟩, msX7_isPart⟩
theorem mlX7_206 : zMV RX7 206 yX7_isFixedBy cX7_isFixedBy 6 (some .boolean) 4 7 := ⟨⟨ztb_in (List.mem_of_getElem? (i := 573) (by decide +kernel)) rfl, mzX7, mcX7_isFixedBy, mdX7_isFixedBy.1, mdX7_isFixedBy.2⟩, miX7_isFixedBy, meX7_isFixedBy, rfl, by decide⟩
theorem mlX7_210 : zMV RX7 210 yX7_firstUnlike cX7_firstUnlike 6 (some .int) 4 7 := ⟨⟨ztb_in (List.mem_of_getElem? (i := 589) (by decide +kernel)) rfl, mzX7, mcX7_firstUnlike, mdX7_firstUnlike.1, mdX7_firstUnlike.2⟩, miX7_firstUnlike, meX7_firstUnlike, rfl, by decide⟩
theorem mlX7_214 : zMV RX7 214 yX7_wordsUnlikeIn cX7_wordsUnlikeIn 5 (some .int) 1 7 := ⟨⟨ztb_in (List.mem_of_getElem? (i := 601) (by decide +kernel)) rfl, mzX7, mcX7_wordsUnlikeIn, mdX7_wordsUnlikeIn.1, mdX7_wordsUnlikeIn.2⟩, miX7_wordsUnlikeIn, meX7_wordsUnlikeIn, rfl, by decide⟩
theorem mlX7_217 : zMS RX7 217 yX7_isMaker cX7_isMaker 1 (some .boolean) 1 := ⟨⟨ztb_in (List.mem_of_getElem? (i := 613) (by decide +kernel)) rfl, mzX7, mcX7_isMaker, mdX7_isMaker.1, mdX7_isMaker.2⟩, msX7_isMaker⟩
theorem mlX7_226 : zMV RX7 226 yX2_ringStart cX2_ringStart 2 (some .int) 1 2 := ⟨⟨ztb_in (List.mem_of_getElem? (i := 620) (by decide +kernel)) rfl, mzX2, mcX2_ringStart, mdX2_ringStart.1, mdX2_ringStart.2⟩, miX2_ringStart, meX2_ringStart, rfl, by decide⟩
theorem mlX7_229 : zMV RX7 229 yX2_way cX2_way 5 (some .int) 1 2 := ⟨⟨ztb_in (List.mem_of_getElem? (i := 633) (by decide +kernel)) rfl, mzX2, mcX2_way, mdX2_way.1, mdX2_way.2⟩, miX2_way, meX2_way, rfl, by decide⟩
theorem mlX7_232 : zMV RX7 232 yX2_after cX2_after 5 (some .int) 2 2 := ⟨⟨ztb_in (List.mem_of_getElem? (i := 638) (by decide +kernel)) rfl, mzX2, mcX2_after, mdX2_after.1, mdX2_after.2⟩, miX2_after, meX2_after, rfl, by decide⟩
theorem mlX7_235 : zMV RX7 235 yX2_textsOn cX2_textsOn 4 (some .int) 1 2 := ⟨⟨ztb_in (List.mem_of_getElem? (i := 643) (by decide +kernel)) rfl, mzX2, mcX2_textsOn, mdX2_textsOn.1, mdX2_textsOn.2⟩, miX2_textsOn, meX2_textsOn, rfl, by decide⟩
theorem mlX7_241 : zMV RX7 241 yX2_seeds cX2_seeds 3 (some .int) 0 2 := ⟨⟨ztb_in (List.mem_of_getElem? (i := 663) (by decide +kernel)) rfl, mzX2, mcX2_seeds, mdX2_seeds.1, mdX2_seeds.2⟩, miX2_seeds, meX2_seeds, rfl, by decide⟩
theorem mlX7_245 : zMS RX7 245 yJ6_numberOfTrailingZeros_0f7a4 cJ6_numberOfTrailingZeros_0f7a4 2 (some .int) 1 := ⟨⟨ztb_in (List.mem_of_getElem? (i := 605) (by decide +kernel)) rfl, mzJ6, mcJ6_numberOfTrailingZeros_0f7a4, mdJ6_numberOfTrailingZeros_0f7a4.1, mdJ6_numberOfTrailingZeros_0f7a4.2⟩, msJ6_numberOfTrailingZeros_0f7a4⟩
theorem mlX7_248 : zMV RX7 248 yX5_isSameAs cX5_isSameAs 3 (some .boolean) 1 5 := ⟨⟨ztb_in (List.mem_of_getElem? (i := 520) (by decide +kernel)) rfl, mzX5, mcX5_isSameAs, mdX5_isSameAs.1, mdX5_isSameAs.2⟩, miX5_isSameAs, meX5_isSameAs, rfl, by decide⟩
theorem mlX7_252 : zMV RX7 252 yX1_turn cX1_turn 3 none 2 1 := ⟨⟨ztb_in (List.mem_of_getElem? (i := 577) (by decide +kernel)) rfl, mzX1, mcX1_turn, mdX1_turn.1, mdX1_turn.2⟩, miX1_turn, meX1_turn, rfl, by decide⟩
theorem mlX8_99 : zMS RX8 99 yX8_in cX8_in 3 (some .boolean) 3 := ⟨⟨ztb_in (List.mem_of_getElem? (i := 778) (by decide +kernel)) rfl, mzX8, mcX8_in, mdX8_in.1, mdX8_in.2⟩, msX8_in⟩
theorem mlX8_109 : zMV RX8 109 yX8_keep cX8_keep 4 (some .int) 1 8 := ⟨⟨ztb_in (List.mem_of_getElem? (i := 785) (by decide +kernel)) rfl, mzX8, mcX8_keep, mdX8_keep.1, mdX8_keep.2⟩, miX8_keep, meX8_keep, rfl, by decide⟩
theorem mlX8_116 : zMV RX8 116 yX8_isText cX8_isText 2 (some .boolean) 1 8 := ⟨⟨ztb_in (List.mem_of_getElem? (i := 793) (by decide +kernel)) rfl, mzX8, mcX8_isText, mdX8_isText.1, mdX8_isText.2⟩, miX8_isText, meX8_isText, rfl, by decide⟩
theorem mlX8_120 : zMS RX8 120 yX8_isRoom cX8_isRoom 1 (some .boolean) 1 := ⟨⟨ztb_in (List.mem_of_getElem? (i := 805) (by decide +kernel)) rfl, mzX8, mcX8_isRoom, mdX8_isRoom.1, mdX8_isRoom.2⟩, msX8_isRoom⟩
theorem mlX8_123 : zMS RX8 123 yX8_isWord cX8_isWord 1 (some .boolean) 1 := ⟨⟨ztb_in (List.mem_of_getElem? (i := 808) (by decide +kernel)) rfl, mzX8, mcX8_isWord, mdX8_isWord.1, mdX8_isWord.2⟩, msX8_isWord⟩
theorem mlX8_126 : zMV RX8 126 yX8_isStep cX8_isStep 2 (some .boolean) 1 8 := ⟨⟨ztb_in (List.mem_of_getElem? (i := 823) (by decide +kernel)) rfl, mzX8, mcX8_isStep, mdX8_isStep.1, mdX8_isStep.2⟩, miX8_isStep, meX8_isStep, rfl, by decide⟩
theorem mlX8_129 : zMV RX8 129 yX8_sizeOf cX8_sizeOf 3 (some .int) 2 8 := ⟨⟨ztb_in (List.mem_of_getElem? (i := 847) (by decide +kernel)) rfl, mzX8, mcX8_sizeOf, mdX8_sizeOf.1, mdX8_sizeOf.2⟩, miX8_sizeOf, meX8_sizeOf, rfl, by decide⟩
theorem mlX8_136 : zMV RX8 136 yX8_byteOf cX8_byteOf 4 (some .int) 3 8 := ⟨⟨ztb_in (List.mem_of_getElem? (i := 859) (by decide +kernel)) rfl, mzX8, mcX8_byteOf, mdX8_byteOf.1, mdX8_byteOf.2⟩, miX8_byteOf, meX8_byteOf, rfl, by decide⟩
theorem mlX8_140 : zMV RX8 140 yX8_add cX8_add 5 none 2 8 := ⟨⟨ztb_in (List.mem_of_getElem? (i := 855) (by decide +kernel)) rfl, mzX8, mcX8_add, mdX8_add.1, mdX8_add.2⟩, miX8_add, meX8_add, rfl, by decide⟩
theorem mlX8_146 : zMV RX8 146 yX8_isReady cX8_isReady 5 (some .boolean) 2 8 := ⟨⟨ztb_in (List.mem_of_getElem? (i := 843) (by decide +kernel)) rfl, mzX8, mcX8_isReady, mdX8_isReady.1, mdX8_isReady.2⟩, miX8_isReady, meX8_isReady, rfl, by decide⟩
theorem mlX8_150 : zMV RX8 150 yX8_join cX8_join 6 none 2 8 := ⟨⟨ztb_in (List.mem_of_getElem? (i := 851) (by decide +kernel)) rfl, mzX8, mcX8_join, mdX8_join.1, mdX8_join.2⟩, miX8_join, meX8_join, rfl, by decide⟩
theorem mlX8_153 : zMV RX8 153 yX8_strip cX8_strip 4 none 1 8 := ⟨⟨ztb_in (List.mem_of_getElem? (i := 863) (by decide +kernel)) rfl, mzX8, mcX8_strip, mdX8_strip.1, mdX8_strip.2⟩, miX8_strip, meX8_strip, rfl, by decide⟩
theorem mlX8_157 : zMV RX8 157 yX8_sort cX8_sort 4 none 0 8 := ⟨⟨ztb_in (List.mem_of_getElem? (i := 867) (by decide +kernel)) rfl, mzX8, mcX8_sort, mdX8_sort.1, mdX8_sort.2⟩, miX8_sort, meX8_sort, rfl, by decide⟩
theorem mlX8_160 : zMV RX8 160 yX8_sign cX8_sign 3 none 0 8 := ⟨⟨ztb_in (List.mem_of_getElem? (i := 871) (by decide +kernel)) rfl, mzX8, mcX8_sign, mdX8_sign.1, mdX8_sign.2⟩, miX8_sign, meX8_sign, rfl, by decide⟩
theorem mlX8_163 : zMV RX8 163 yX8_make cX8_make 5 none 2 8 := ⟨⟨ztb_in (List.mem_of_getElem? (i := 839) (by decide +kernel)) rfl, mzX8, mcX8_make, mdX8_make.1, mdX8_make.2⟩, miX8_make, meX8_make, rfl, by decide⟩
theorem mlX8_166 : zMV RX8 166 yX8_take cX8_take 3 none 1 8 := ⟨⟨ztb_in (List.mem_of_getElem? (i := 831) (by decide +kernel)) rfl, mzX8, mcX8_take, mdX8_take.1, mdX8_take.2⟩, miX8_take, meX8_take, rfl, by decide⟩
theorem mlX8_169 : zMV RX8 169 yX8_build cX8_build 4 none 2 8 := ⟨⟨ztb_in (List.mem_of_getElem? (i := 835) (by decide +kernel)) rfl, mzX8, mcX8_build, mdX8_build.1, mdX8_build.2⟩, miX8_build, meX8_build, rfl, by decide⟩
theorem mlX8_172 : zMV RX8 172 yX8_usedBy cX8_usedBy 5 (some .int) 1 8 := ⟨⟨ztb_in (List.mem_of_getElem? (i := 889) (by decide +kernel)) rfl, mzX8, mcX8_usedBy, mdX8_usedBy.1, mdX8_usedBy.2⟩, miX8_usedBy, meX8_usedBy, rfl, by decide⟩
theorem mlX8_175 : zMV RX8 175 yX8_readBy cX8_readBy 2 (some .int) 1 8 := ⟨⟨ztb_in (List.mem_of_getElem? (i := 893) (by decide +kernel)) rfl, mzX8, mcX8_readBy, mdX8_readBy.1, mdX8_readBy.2⟩, miX8_readBy, meX8_readBy, rfl, by decide⟩
theorem mlX8_178 : zMV RX8 178 yX8_wordsOf cX8_wordsOf 7 (some .int) 3 8 := ⟨⟨ztb_in (List.mem_of_getElem? (i := 885) (by decide +kernel)) rfl, mzX8, mcX8_wordsOf, mdX8_wordsOf.1, mdX8_wordsOf.2⟩, miX8_wordsOf, meX8_wordsOf, rfl, by decide⟩
theorem mlX8_184 : zMS RX8 184 yX8_bits cX8_bits 3 (some .int) 1 := ⟨⟨ztb_in (List.mem_of_getElem? (i := 906) (by decide +kernel)) rfl, mzX8, mcX8_bits, mdX8_bits.1, mdX8_bits.2⟩, msX8_bits⟩
theorem mlX8_189 : zMV RX8 189 yX8_both cX8_both 4 none 3 8 := ⟨⟨ztb_in (List.mem_of_getElem? (i := 918) (by decide +kernel)) rfl, mzX8, mcX8_both, mdX8_both.1, mdX8_both.2⟩, miX8_both, meX8_both, rfl, by decide⟩
theorem mlX8_193 : zMV RX8 193 yX8_areAlike cX8_areAlike 3 (some .boolean) 1 8 := ⟨⟨ztb_in (List.mem_of_getElem? (i := 922) (by decide +kernel)) rfl, mzX8, mcX8_areAlike, mdX8_areAlike.1, mdX8_areAlike.2⟩, miX8_areAlike, meX8_areAlike, rfl, by decide⟩
theorem mlX8_196 : zMV RX8 196 yX8_first cX8_first 3 (some .int) 2 8 := ⟨⟨ztb_in (List.mem_of_getElem? (i := 934) (by decide +kernel)) rfl, mzX8, mcX8_first, mdX8_first.1, mdX8_first.2⟩, miX8_first, meX8_first, rfl, by decide⟩
theorem mlX8_199 : zMV RX8 199 yX8_second cX8_second 3 (some .int) 2 8 := ⟨⟨ztb_in (List.mem_of_getElem? (i := 938) (by decide +kernel)) rfl, mzX8, mcX8_second, mdX8_second.1, mdX8_second.2⟩, miX8_second, meX8_second, rfl, by decide⟩
theorem mlX8_205 : zMV RX8 205 yX8_findFar cX8_findFar 9 none 3 8 := ⟨⟨ztb_in (List.mem_of_getElem? (i := 930) (by decide +kernel)) rfl, mzX8, mcX8_findFar, mdX8_findFar.1, mdX8_findFar.2⟩, miX8_findFar, meX8_findFar, rfl, by decide⟩
theorem mlX8_208 : zMV RX8 208 yX8_note cX8_note 4 none 3 8 := ⟨⟨ztb_in (List.mem_of_getElem? (i := 942) (by decide +kernel)) rfl, mzX8, mcX8_note, mdX8_note.1, mdX8_note.2⟩, miX8_note, meX8_note, rfl, by decide⟩
theorem mlX8_211 : zMV RX8 211 yX8_breaking cX8_breaking 6 (some .int) 4 8 := ⟨⟨ztb_in (List.mem_of_getElem? (i := 962) (by decide +kernel)) rfl, mzX8, mcX8_breaking, mdX8_breaking.1, mdX8_breaking.2⟩, miX8_breaking, meX8_breaking, rfl, by decide⟩
theorem mlX8_215 : zMV RX8 215 yX8_areEnough cX8_areEnough 7 (some .boolean) 2 8 := ⟨⟨ztb_in (List.mem_of_getElem? (i := 974) (by decide +kernel)) rfl, mzX8, mcX8_areEnough, mdX8_areEnough.1, mdX8_areEnough.2⟩, miX8_areEnough, meX8_areEnough, rfl, by decide⟩
theorem mlX8_218 : zMS RX8 218 yX8_isMaker cX8_isMaker 1 (some .boolean) 1 := ⟨⟨ztb_in (List.mem_of_getElem? (i := 982) (by decide +kernel)) rfl, mzX8, mcX8_isMaker, mdX8_isMaker.1, mdX8_isMaker.2⟩, msX8_isMaker⟩
theorem mlX8_221 : zMV RX8 221 yX8_downFrom cX8_downFrom 4 (some .int) 1 8 := ⟨⟨ztb_in (List.mem_of_getElem? (i := 989) (by decide +kernel)) rfl, mzX8, mcX8_downFrom, mdX8_downFrom.1, mdX8_downFrom.2⟩, miX8_downFrom, meX8_downFrom, rfl, by decide⟩
theorem mlX8_224 : zMV RX8 224 yX8_walk cX8_walk 3 (some .int) 1 8 := ⟨⟨ztb_in (List.mem_of_getElem? (i := 997) (by decide +kernel)) rfl, mzX8, mcX8_walk, mdX8_walk.1, mdX8_walk.2⟩, miX8_walk, meX8_walk, rfl, by decide⟩
