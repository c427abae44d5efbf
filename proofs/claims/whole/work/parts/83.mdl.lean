/-! the model's object, new -/
def byI (iv0 : Nat → Nat → Int32) (Z k : Nat) (iv : Nat → Nat → Int32) : Prop := (∀ a j, a ≠ Z → iv a j = iv0 a j) ∧ ∀ j, iv Z j = if j < k then -1 else 0
theorem by_step {β : Type} {P : β → Prop} {F : zS → Option β} {K : Nat → Option (Nat × Nat)} {iv0 iv : Nat → Nat → Int32} {rv : Nat → Nat → Option Nat} {lv : Nat → Nat → Int64} {Z k : Nat} {x : Int32} (hk : K Z = some (9, 30)) (hx : x = nI k) (hk30 : k < 30) (h : byI iv0 Z k iv) (kk : ∀ iv', byI iv0 Z (k + 1) iv' → zw (F (K, iv', rv, lv)) P) : zw ((zis (K, iv, rv, lv) Z x (-1)).bind F) P := by
  refine zw.e (zis_v hk hx hk30 (by decide)) ?_
  refine kk _ ⟨fun a j ha => by rw [zu_o (fun q => ha q.1)]; exact h.1 a j ha, fun j => ?_⟩
  by_cases e : j = k
  · rw [e, zu_s, if_pos (by omega)]
  · rw [zu_o (fun q => e q.2), h.2 j]
    by_cases e2 : j < k
    · rw [if_pos e2, if_pos (by omega)]
    · rw [if_neg e2, if_neg (by omega)]
def mE0 (i j : Nat) : Int32 := if i = 22 ∧ j < 30 then -1 else 0
set_option maxRecDepth 10000 in
theorem mdl_new {N z : Nat} {S : zS} : zw (fX8_init N 27 119589 (zad S z 8 0) (z + 1) 0 0 z) (fun q => q.2 = z + 28 ∧ eX z z S q.1 ∧ mL z q.1.1 q.1.2.2.1 ∧ (∀ a, z ≤ a → a < z + 28 → a ≠ z + 23 → ∀ j, q.1.2.1 a j = 0) ∧ ∀ j, j < 30 → q.1.2.1 (z + 23) j = -1) := by
  unfold fX8_init fX8_init_0
  have h0 : aS z 8 (z + 1) [] mE0 (zad S z 8 0) (zad S z 8 0) := aS.start zad_K (by omega)
  refine al_step (n := 60) h0 rfl rfl (by decide) (by decide) (by decide) (fun j => if_neg (by simp)) (fun S1 h1 => ?_)
  refine al_step (n := 20) h1 rfl rfl (by decide) (by decide) (by decide) (fun j => if_neg (by simp)) (fun S2 h2 => ?_)
  refine al_step (n := 1200) h2 rfl rfl (by decide) (by decide) (by decide) (fun j => if_neg (by simp)) (fun S3 h3 => ?_)
  refine al_step (n := 20) h3 rfl rfl (by decide) (by decide) (by decide) (fun j => if_neg (by simp)) (fun S4 h4 => ?_)
  refine al_step (n := 64) h4 rfl rfl (by decide) (by decide) (by decide) (fun j => if_neg (by simp)) (fun S5 h5 => ?_)
  refine al_step (n := 24) h5 rfl rfl (by decide) (by decide) (by decide) (fun j => if_neg (by simp)) (fun S6 h6 => ?_)
  refine al_step (n := 24) h6 rfl rfl (by decide) (by decide) (by decide) (fun j => if_neg (by simp)) (fun S7 h7 => ?_)
  refine al_step (n := 24) h7 rfl rfl (by decide) (by decide) (by decide) (fun j => if_neg (by simp)) (fun S8 h8 => ?_)
  refine al_step (n := 24) h8 rfl rfl (by decide) (by decide) (by decide) (fun j => if_neg (by simp)) (fun S9 h9 => ?_)
  refine al_step (n := 96) h9 rfl rfl (by decide) (by decide) (by decide) (fun j => if_neg (by simp)) (fun S10 h10 => ?_)
  refine al_step (n := 8) h10 rfl rfl (by decide) (by decide) (by decide) (fun j => if_neg (by simp)) (fun S11 h11 => ?_)
  refine al_step (n := 48) h11 rfl rfl (by decide) (by decide) (by decide) (fun j => if_neg (by simp)) (fun S12 h12 => ?_)
  refine al_step (n := 9600) h12 rfl rfl (by decide) (by decide) (by decide) (fun j => if_neg (by simp)) (fun S13 h13 => ?_)
  refine al_step (n := 800) h13 rfl rfl (by decide) (by decide) (by decide) (fun j => if_neg (by simp)) (fun S14 h14 => ?_)
  refine al_step (n := 256) h14 rfl rfl (by decide) (by decide) (by decide) (fun j => if_neg (by simp)) (fun S15 h15 => ?_)
  refine al_step (n := 24) h15 rfl rfl (by decide) (by decide) (by decide) (fun j => if_neg (by simp)) (fun S16 h16 => ?_)
  refine al_step (n := 20) h16 rfl rfl (by decide) (by decide) (by decide) (fun j => if_neg (by simp)) (fun S17 h17 => ?_)
  refine al_step (n := 65536) h17 rfl rfl (by decide) (by decide) (by decide) (fun j => if_neg (by simp)) (fun S18 h18 => ?_)
  refine al_step (n := 40401) h18 rfl rfl (by decide) (by decide) (by decide) (fun j => if_neg (by simp)) (fun S19 h19 => ?_)
  refine al_step (n := 400) h19 rfl rfl (by decide) (by decide) (by decide) (fun j => if_neg (by simp)) (fun S20 h20 => ?_)
  refine al_step (n := 400) h20 rfl rfl (by decide) (by decide) (by decide) (fun j => if_neg (by simp)) (fun S21 h21 => ?_)
  refine al_step (n := 400) h21 rfl rfl (by decide) (by decide) (by decide) (fun j => if_neg (by simp)) (fun S22 h22 => ?_)
  refine zw.e (zlg_x (n := 30) rfl (by decide)) ?_
  refine zw.e (show zbud 27 119589 _ _ 1 30 = some () from by decide) ?_
  unfold zlet zad
  have hZ : (fun a => if a = z + 1 + 22 then some (9, 30) else S22.1 a) (z + 1 + 22) = some (9, 30) := if_pos rfl
  have b0 : byI S22.2.1 (z + 1 + 22) 0 (zro S22.2.1 (z + 1 + 22) (fun _ => 0)) := ⟨fun a j ha => by rw [zro_ne ha], fun j => congrFun (zro_eq (f := S22.2.1) (a := z + 1 + 22) (g := fun _ => (0 : Int32))) j⟩
  refine by_step (k := 0) hZ rfl (by decide) b0 (fun iv1 b1 => ?_)
  refine by_step (k := 1) hZ rfl (by decide) b1 (fun iv2 b2 => ?_)
  refine by_step (k := 2) hZ rfl (by decide) b2 (fun iv3 b3 => ?_)
  refine by_step (k := 3) hZ rfl (by decide) b3 (fun iv4 b4 => ?_)
  refine by_step (k := 4) hZ rfl (by decide) b4 (fun iv5 b5 => ?_)
  refine by_step (k := 5) hZ rfl (by decide) b5 (fun iv6 b6 => ?_)
  refine by_step (k := 6) hZ rfl (by decide) b6 (fun iv7 b7 => ?_)
  refine by_step (k := 7) hZ rfl (by decide) b7 (fun iv8 b8 => ?_)
  refine by_step (k := 8) hZ rfl (by decide) b8 (fun iv9 b9 => ?_)
  refine by_step (k := 9) hZ rfl (by decide) b9 (fun iv10 b10 => ?_)
  refine by_step (k := 10) hZ rfl (by decide) b10 (fun iv11 b11 => ?_)
  refine by_step (k := 11) hZ rfl (by decide) b11 (fun iv12 b12 => ?_)
  refine by_step (k := 12) hZ rfl (by decide) b12 (fun iv13 b13 => ?_)
  refine by_step (k := 13) hZ rfl (by decide) b13 (fun iv14 b14 => ?_)
  refine by_step (k := 14) hZ rfl (by decide) b14 (fun iv15 b15 => ?_)
  refine by_step (k := 15) hZ rfl (by decide) b15 (fun iv16 b16 => ?_)
  refine by_step (k := 16) hZ rfl (by decide) b16 (fun iv17 b17 => ?_)
  refine by_step (k := 17) hZ rfl (by decide) b17 (fun iv18 b18 => ?_)
  refine by_step (k := 18) hZ rfl (by decide) b18 (fun iv19 b19 => ?_)
  refine by_step (k := 19) hZ rfl (by decide) b19 (fun iv20 b20 => ?_)
  refine by_step (k := 20) hZ rfl (by decide) b20 (fun iv21 b21 => ?_)
  refine by_step (k := 21) hZ rfl (by decide) b21 (fun iv22 b22 => ?_)
  refine by_step (k := 22) hZ rfl (by decide) b22 (fun iv23 b23 => ?_)
  refine by_step (k := 23) hZ rfl (by decide) b23 (fun iv24 b24 => ?_)
  refine by_step (k := 24) hZ rfl (by decide) b24 (fun iv25 b25 => ?_)
  refine by_step (k := 25) hZ rfl (by decide) b25 (fun iv26 b26 => ?_)
  refine by_step (k := 26) hZ rfl (by decide) b26 (fun iv27 b27 => ?_)
  refine by_step (k := 27) hZ rfl (by decide) b27 (fun iv28 b28 => ?_)
  refine by_step (k := 28) hZ rfl (by decide) b28 (fun iv29 b29 => ?_)
  refine by_step (k := 29) hZ rfl (by decide) b29 (fun iv30 b30 => ?_)
  have ekk : (fun a => if a = z + 1 + 22 then some (9, 30) else S22.1 a) z = some (8, 0) := (if_neg (by omega)).trans h22.1
  refine zw.e (zpr_at ekk) ?_
  have h23 := h22.add (f := 28) (t := 9) (n := 30) (iv' := iv30) (lv' := zro S22.2.2.2 (z + 1 + 22) (fun _ => 0)) (by decide) (fun a j ha => b30.1 a j ha) (fun j => by
    rw [show z + 1 + List.length _ = z + 1 + 22 from rfl, b30.2 j]
    unfold mE0
    by_cases e : j < 30
    · rw [if_pos e, if_pos ⟨rfl, e⟩]
    · rw [if_neg e, if_neg (fun q => e q.2)])
  refine al_step (n := 30) h23 rfl rfl (by decide) (by decide) (by decide) (fun j => if_neg (by simp)) (fun S24 h24 => ?_)
  refine al_step (n := 30) h24 rfl rfl (by decide) (by decide) (by decide) (fun j => if_neg (by simp)) (fun S25 h25 => ?_)
  refine al_step (n := 30) h25 rfl rfl (by decide) (by decide) (by decide) (fun j => if_neg (by simp)) (fun S26 h26 => ?_)
  refine al_step (n := 20) h26 rfl rfl (by decide) (by decide) (by decide) (fun j => if_neg (by simp)) (fun S27 h27 => ?_)
  rw [zfin_at ⟨by decide, by decide⟩]
  refine zw.s ⟨rfl, h27.ex, ⟨h27.1, h27.at 0 rfl, h27.at 1 rfl, h27.at 2 rfl, h27.at 3 rfl, h27.at 4 rfl, h27.at 5 rfl, h27.at 6 rfl, h27.at 7 rfl, h27.at 8 rfl, h27.at 9 rfl, h27.at 10 rfl, h27.at 11 rfl, h27.at 12 rfl, h27.at 13 rfl, h27.at 14 rfl, h27.at 15 rfl, h27.at 16 rfl, h27.at 17 rfl, h27.at 18 rfl, h27.at 19 rfl, h27.at 20 rfl, h27.at 21 rfl, h27.at 22 rfl, h27.at 23 rfl, h27.at 24 rfl, h27.at 25 rfl, h27.at 26 rfl⟩, fun a g1 g2 g3 j => ?_, fun j hj => ?_⟩
  · by_cases e : a = z
    · rw [e]
      exact ((h27.2.2.2.1 z (by omega)).2.1 j).trans (zad_0 j)
    · have := h27.2.2.2.2 (a - (z + 1)) (by simp; omega) j
      rw [show z + 1 + (a - (z + 1)) = a by omega] at this
      rw [this]
      unfold mE0
      rw [if_neg (by omega)]
  · have := h27.2.2.2.2 22 (by simp) j
    rw [show z + 1 + 22 = z + 23 by omega] at this
    rw [this]
    unfold mE0
    rw [if_pos ⟨rfl, hj⟩]
