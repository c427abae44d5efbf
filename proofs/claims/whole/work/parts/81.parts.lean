/-! the class's parts, new -/
theorem ze.ex {x0 lo hi z : Nat} {vf : Nat → Int32} {S S' : zS} (h : ze vf lo hi S) (e : eX x0 z S S') (hz : hi ≤ z) : ze vf lo hi S' := fun a g1 g2 j => by rw [(e a (by omega)).2.1 j, (e a (by omega)).1]; exact h a g1 g2 j
theorem ze.cat {lo mi hi : Nat} {vf : Nat → Int32} {S : zS} (h1 : ze vf lo mi S) (h2 : ze vf mi hi S) : ze vf lo hi S := fun a g1 g2 j => by
  by_cases e : a < mi
  · exact h1 a g1 e j
  · exact h2 a (by omega) g2 j
theorem zad_K {S : zS} {z t n : Nat} : (zad S z t n).1 z = some (t, n) := if_pos rfl
theorem zad_ex {S : zS} {z t n : Nat} : eX z z S (zad S z t n) := fun a ha => ⟨if_neg (by omega), fun j => by
    show zro S.2.1 z (fun _ => 0) a j = _
    rw [zro_ne (by omega)], fun _ j => by
    show zro S.2.2.1 z (fun _ => none) a j = _
    rw [zro_ne (by omega)]⟩
theorem zad_0 {S : zS} {z t n : Nat} (j : Nat) : (zad S z t n).2.1 z j = 0 := congrFun (zro_eq (f := S.2.1) (a := z) (g := fun _ => (0 : Int32))) j
theorem aS.ex {z c t n : Nat} {L : List (Nat × Nat × Nat)} {e0 : Nat → Nat → Int32} {S S' : zS} (h : aS z c (z + 1) L e0 (zad S z t n) S') : eX z z S S' := zad_ex.tr (h.2.2.2.1.lo (z := z) (x0 := z) (by omega) (by omega)) (by omega)
theorem aS.ze {z c t n : Nat} {vf : Nat → Int32} {L : List (Nat × Nat × Nat)} {S S' : zS} (h : aS z c (z + 1) L (fun _ _ => 0) (zad S z t n) S') (hc : c ≠ 5) (hL : ∀ p ∈ L, p.2.1 ≠ 5) : ze vf z (z + 1 + L.length) S' := fun a g1 g2 j => by
  by_cases e : a = z
  · rw [e, h.1, if_neg (fun q => hc (by cases q.1; rfl)), (h.2.2.2.1 z (by omega)).2.1 j]; exact zad_0 j
  · have hi : a - (z + 1) < L.length := by omega
    have h1 := h.2.2.2.2 (a - (z + 1)) hi j
    have h2 := (h.2.2.1 (a - (z + 1)) _ (List.getElem?_eq_getElem hi)).2
    rw [show z + 1 + (a - (z + 1)) = a by omega] at h1 h2
    have h3 := hL _ (List.getElem_mem hi)
    rw [h1, h2, if_neg (fun q => h3 (by rw [Option.some.inj q.1]))]
section C81
variable {N b : Nat} {S : zS}
theorem tex_new {vf : Nat → Int32} (hN : 100 < N) (hv : ∀ a, a < b + 45 → vf a = nI 60) : zw (rX6_init N 43 83 (zad S (b + 1) 6 0) (b + 1 + 1) 0 0 (b + 1)) (fun q => q.2 = b + 45 ∧ eX (b + 1) (b + 1) S q.1 ∧ cTexR b q.1.1 q.1.2.2.1 ∧ ze vf (b + 1) (b + 45) q.1) := by
  unfold rX6_init rX6_init_0
  refine zw.e (show zbud 43 83 0 0 1 3 = some () from by decide) ?_
  unfold zlet
  refine zw.e (show zbud 43 83 (0 + 1) (0 + 3) 1 0 = some () from by decide) ?_
  refine zw.c2 (row_new (n := 60) (vf := vf) rfl (by decide) (hv _ (by omega))) ?_
  rintro S1 z1 ⟨rfl, e1, r1, g1⟩
  dsimp only at e1 r1 g1
  have k1 : S1.1 (b + 1) = some (6, 0) := ((e1 (b + 1) (by omega)).1).trans zad_K
  have hpr : zpr S1 (b + 1) 6 0 (b + 1 + 1) = some (S1.1, S1.2.1, zu S1.2.2.1 (b + 1) 0 (some (b + 1 + 1)), S1.2.2.2) := zpr_at (K := S1.1) (iv := S1.2.1) (rv := S1.2.2.1) (lv := S1.2.2.2) k1
  refine zw.e hpr ?_
  have h0 : aS (b + 1) 6 (b + 4) [] (fun _ _ => 0) (S1.1, S1.2.1, zu S1.2.2.1 (b + 1) 0 (some (b + 1 + 1)), S1.2.2.2) (S1.1, S1.2.1, zu S1.2.2.1 (b + 1) 0 (some (b + 1 + 1)), S1.2.2.2) := aS.start k1 (by omega)
  refine zw.e (zlg_x (n := 20) rfl (by decide)) ?_
  refine zw.e (show zbud 43 83 (0 + 1 + 1) (0 + 3 + 0) 1 20 = some () from by decide) ?_
  have hz4 : b + 1 + 1 + 2 = b + 4 := by omega
  rw [hz4]
  -- the array of rows
  have ekk : (zad (S1.1, S1.2.1, zu S1.2.2.1 (b + 1) 0 (some (b + 1 + 1)), S1.2.2.2) (b + 4) 12 20).1 (b + 1) = some (6, 0) := by
    show (if b + 1 = b + 4 then _ else S1.1 (b + 1)) = _
    rw [if_neg (by omega)]; exact k1
  generalize hS2 : zad (S1.1, S1.2.1, zu S1.2.2.1 (b + 1) 0 (some (b + 1 + 1)), S1.2.2.2) (b + 4) 12 20 = S2 at ekk
  have hpr2 : zpr S2 (b + 1) 6 1 (b + 4) = some (S2.1, S2.2.1, zu S2.2.2.1 (b + 1) 1 (some (b + 4)), S2.2.2.2) := zpr_at (K := S2.1) (iv := S2.2.1) (rv := S2.2.2.1) (lv := S2.2.2.2) ekk
  refine zw.e hpr2 ?_
  have K2 : ∀ a, S2.1 a = if a = b + 4 then some (12, 20) else S1.1 a := fun a => by rw [← hS2]; rfl
  have I2 : ∀ a j, S2.2.1 a j = if a = b + 4 then 0 else S1.2.1 a j := fun a j => by
    rw [← hS2]
    show zro S1.2.1 (b + 4) (fun _ => 0) a j = _
    unfold zro
    rfl
  have R2 : ∀ a j, a ≠ b + 4 → S2.2.2.1 a j = if a = b + 1 ∧ j = 0 then some (b + 2) else S1.2.2.1 a j := fun a j ha => by
    rw [← hS2]
    show zro (zu S1.2.2.1 (b + 1) 0 (some (b + 1 + 1))) (b + 4) (fun _ => none) a j = _
    rw [zro_ne ha]
    rfl
  -- what is there before the rows
  unfold rlX6_init_28
  refine zw.loop (fun m y => ∃ t S3, t + m = 20 ∧ y = (S3, b + 5 + 2 * t, 3 + 2 * t, 23 + 3 * t, b + 1, nI t) ∧ S3.1 (b + 1) = some (6, 0) ∧ S3.2.2.1 (b + 1) 0 = some (b + 2) ∧ S3.2.2.1 (b + 1) 1 = some (b + 4) ∧ cRoR S3.1 S3.2.2.1 (b + 2) ∧ S3.1 (b + 4) = some (12, 20) ∧ (∀ t', t' < t → S3.2.2.1 (b + 4) t' = some (b + 5 + 2 * t') ∧ cRoR S3.1 S3.2.2.1 (b + 5 + 2 * t')) ∧ eX (b + 1) (b + 1) S S3 ∧ ze vf (b + 1) (b + 5 + 2 * t) S3) ?_ N 20 _ (by omega) ⟨0, _, by omega, rfl, by show S2.1 (b + 1) = _; exact ekk, ?_, ?_, ?_, ?_, fun t' ht => by omega, ?_, ?_⟩
  · rintro m ⟨S3', y1, y2, y3, y4, y5⟩ Kc ⟨t, S3, ht, hy, i1, i2, i3, i4, i5, i6, i7, i8⟩ ih
    cases hy
    dsimp only
    unfold rX6_init_28
    by_cases hm : m = 0
    · have : t = 20 := by omega
      subst this
      refine zw.t (by decide) ?_
      rw [zfin_at ⟨by decide, by decide⟩]
      exact zw.s ⟨rfl, i7, ⟨i1, i2, i3, i4, i5, i6⟩, i8⟩
    · refine zw.f (nI_ge (show t < 20 by omega) (by decide)) ?_
      refine row_put (n := 60) (t := t) (ar := b + 4) (len := 20) (F := fun S7 z6 => Kc (S7, z6, ((3 + 2 * t + 1) + 1), ((23 + 3 * t + 3) + 0), b + 1, (nI t + (1 : Int32)))) rfl (by decide) (hv _ (by omega)) rfl (by omega) (by decide) i1 i3 i5 (by omega) ⟨by omega, by omega⟩ (fun S4 w1 w2 w3 w4 w5 => ?_)
      refine ih (m - 1) _ (by omega) ⟨t + 1, S4, by omega, by rw [nI_1 t, show b + 5 + 2 * t + 2 = b + 5 + 2 * (t + 1) by omega, show 3 + 2 * t + 1 + 1 = 3 + 2 * (t + 1) by omega, show 23 + 3 * t + 3 + 0 = 23 + 3 * (t + 1) by omega], ?_, ?_, ?_, ?_, ?_, fun t' ht' => ?_, ?_, ?_⟩
      · rw [(w2 _ (by omega)).1]; exact i1
      · rw [(w2 _ (by omega)).2.2 (by omega)]; exact i2
      · rw [(w2 _ (by omega)).2.2 (by omega)]; exact i3
      · exact i4.sm (w2.sm (by omega) (by omega))
      · rw [(w2 _ (by omega)).1]; exact i5
      · by_cases e : t' = t
        · rw [e, w4, if_pos rfl]; exact ⟨rfl, w3⟩
        · rw [w4, if_neg e]
          exact ⟨(i6 t' (by omega)).1, (i6 t' (by omega)).2.sm (w2.sm (by omega) (by omega))⟩
      · exact i7.tr (w2.lo (z := b + 1) (by omega) (by omega)) (by omega)
      · exact (i8.ex w2 (by omega)).cat (fun a g1 g2 j => w5 a g1 (by omega) j)
  · show zu S2.2.2.1 (b + 1) 1 (some (b + 4)) (b + 1) 0 = _
    rw [zu_o (by omega), R2 _ _ (by omega), if_pos ⟨rfl, rfl⟩]
  · show zu S2.2.2.1 (b + 1) 1 (some (b + 4)) (b + 1) 1 = _
    rw [zu_s]
  · refine ⟨?_, ?_, ?_⟩
    · show S2.1 (b + 2) = _
      rw [K2, if_neg (by omega)]; exact r1.1
    · show zu S2.2.2.1 (b + 1) 1 (some (b + 4)) (b + 2) 1 = _
      rw [zu_o (by omega), R2 _ _ (by omega), if_neg (by omega)]; exact r1.2.1
    · show S2.1 (b + 2 + 1) = _
      rw [K2, if_neg (by omega)]; exact r1.2.2
  · show S2.1 (b + 4) = _
    rw [K2, if_pos rfl]
  · intro a ha
    obtain ⟨p1, p2, p3⟩ := e1 a (by omega)
    obtain ⟨q1, q2, q3⟩ := zad_ex (S := S) (z := b + 1) (t := 6) (n := 0) a ha
    refine ⟨?_, fun j => ?_, fun _ j => ?_⟩
    · show S2.1 a = _
      rw [K2, if_neg (by omega), p1, q1]
    · show S2.2.1 a j = _
      rw [I2, if_neg (by omega), p2, q2]
    · show zu S2.2.2.1 (b + 1) 1 (some (b + 4)) a j = _
      rw [zu_o (by omega), R2 _ _ (by omega), if_neg (by omega), p3 (by omega), q3 (by omega)]
  · intro a q1 q2 j
    show S2.2.1 a j = if S2.1 a = some (5, 0) ∧ j = 0 then vf a else 0
    rw [I2, K2]
    by_cases e : a = b + 4
    · rw [if_pos e, if_pos e, if_neg (fun q => by cases q.1)]
    · rw [if_neg e, if_neg e]
      by_cases e2 : a = b + 1
      · rw [e2, k1, if_neg (fun q => by cases q.1), (e1 (b + 1) (by omega)).2.1]; exact zad_0 j
      · exact g1 a (by omega) (by omega) j
theorem pla_new {vf : Nat → Int32} : zw (rX4_init N 8 264 (zad S (b + 45) 4 0) (b + 45 + 1) 0 0 (b + 45)) (fun q => q.2 = b + 54 ∧ eX (b + 45) (b + 45) S q.1 ∧ cPla b q.1.1 q.1.2.2.1 ∧ ze vf (b + 45) (b + 54) q.1) := by
  unfold rX4_init rX4_init_0
  have h0 : aS (b + 45) 4 (b + 45 + 1) [] (fun _ _ => 0) (zad S (b + 45) 4 0) (zad S (b + 45) 4 0) := aS.start zad_K (by omega)
  refine al_step (n := 24) h0 rfl rfl (by decide) (by decide) (by decide) (fun j => rfl) (fun S1 h1 => ?_)
  refine al_step (n := 24) h1 rfl rfl (by decide) (by decide) (by decide) (fun j => rfl) (fun S2 h2 => ?_)
  refine al_step (n := 24) h2 rfl rfl (by decide) (by decide) (by decide) (fun j => rfl) (fun S3 h3 => ?_)
  refine al_step (n := 96) h3 rfl rfl (by decide) (by decide) (by decide) (fun j => rfl) (fun S4 h4 => ?_)
  refine al_step (n := 24) h4 rfl rfl (by decide) (by decide) (by decide) (fun j => rfl) (fun S5 h5 => ?_)
  refine al_step (n := 24) h5 rfl rfl (by decide) (by decide) (by decide) (fun j => rfl) (fun S6 h6 => ?_)
  refine al_step (n := 24) h6 rfl rfl (by decide) (by decide) (by decide) (fun j => rfl) (fun S7 h7 => ?_)
  refine al_step (n := 24) h7 rfl rfl (by decide) (by decide) (by decide) (fun j => rfl) (fun S8 h8 => ?_)
  rw [zfin_at ⟨by decide, by decide⟩]
  refine zw.s ⟨rfl, h8.ex, ⟨h8.1, h8.at 0 rfl, h8.at 1 rfl, h8.at 2 rfl, h8.at 3 rfl, h8.at 4 rfl, h8.at 5 rfl, h8.at 6 rfl, h8.at 7 rfl⟩, h8.ze (by decide) (by decide)⟩
theorem ali_new {vf : Nat → Int32} : zw (rX0_init N 6 3502 (zad S (b + 169) 0 0) (b + 169 + 1) 0 0 (b + 169)) (fun q => q.2 = b + 176 ∧ eX (b + 169) (b + 169) S q.1 ∧ cAli b (b + 174) (b + 175) q.1.1 q.1.2.2.1 ∧ ze vf (b + 169) (b + 176) q.1) := by
  unfold rX0_init rX0_init_0
  have h0 : aS (b + 169) 0 (b + 169 + 1) [] (fun _ _ => 0) (zad S (b + 169) 0 0) (zad S (b + 169) 0 0) := aS.start zad_K (by omega)
  refine al_step (n := 200) h0 rfl rfl (by decide) (by decide) (by decide) (fun j => rfl) (fun S1 h1 => ?_)
  refine al_step (n := 200) h1 rfl rfl (by decide) (by decide) (by decide) (fun j => rfl) (fun S2 h2 => ?_)
  refine al_step (n := 200) h2 rfl rfl (by decide) (by decide) (by decide) (fun j => rfl) (fun S3 h3 => ?_)
  refine al_step (n := 2500) h3 rfl rfl (by decide) (by decide) (by decide) (fun j => rfl) (fun S4 h4 => ?_)
  refine al_step (n := 201) h4 rfl rfl (by decide) (by decide) (by decide) (fun j => rfl) (fun S5 h5 => ?_)
  refine al_step (n := 201) h5 rfl rfl (by decide) (by decide) (by decide) (fun j => rfl) (fun S6 h6 => ?_)
  rw [zfin_at ⟨by decide, by decide⟩]
  refine zw.s ⟨rfl, h6.ex, ⟨h6.1, h6.at 0 rfl, h6.at 1 rfl, h6.at 2 rfl, h6.at 3 rfl, h6.at 4 rfl, h6.at 5 rfl, Or.inl ⟨rfl, rfl⟩⟩, h6.ze (by decide) (by decide)⟩
theorem ord_new {vf : Nat → Int32} : zw (rX3_init N 3 41 (zad S (b + 176) 3 0) (b + 176 + 1) 0 0 (b + 176)) (fun q => q.2 = b + 180 ∧ eX (b + 176) (b + 176) S q.1 ∧ cOrd b (b + 177) 1 q.1.1 q.1.2.2.1 ∧ ze vf (b + 176) (b + 180) q.1) := by
  unfold rX3_init rX3_init_0
  have h0 : aS (b + 176) 3 (b + 176 + 1) [] (fun _ _ => 0) (zad S (b + 176) 3 0) (zad S (b + 176) 3 0) := aS.start zad_K (by omega)
  refine al_step (n := 1) h0 rfl rfl (by decide) (by decide) (by decide) (fun j => rfl) (fun S1 h1 => ?_)
  refine al_step (n := 16) h1 rfl rfl (by decide) (by decide) (by decide) (fun j => rfl) (fun S2 h2 => ?_)
  refine al_step (n := 24) h2 rfl rfl (by decide) (by decide) (by decide) (fun j => rfl) (fun S3 h3 => ?_)
  rw [zfin_at ⟨by decide, by decide⟩]
  refine zw.s ⟨rfl, h3.ex, ⟨h3.1, h3.at 0 rfl, h3.at 1 rfl, h3.at 2 rfl, Or.inl rfl, by decide⟩, h3.ze (by decide) (by decide)⟩
theorem mak_new (hN : 100 < N) : zw (rX2_init N 2 60 (zad S (b + 180) 2 0) (b + 180 + 1) 0 0 (b + 180)) (fun q => q.2 = b + 183 ∧ eX (b + 180) (b + 180) S q.1 ∧ cMak b q.1.1 q.1.2.2.1 ∧ (∀ j, q.1.2.1 (b + 180) j = 0) ∧ (∀ j, j < 30 → q.1.2.1 (b + 181) j = -1) ∧ ∀ j, q.1.2.1 (b + 182) j = 0) := by
  unfold rX2_init rX2_init_0
  have h0 : aS (b + 180) 2 (b + 180 + 1) [] (fun _ _ => 0) (zad S (b + 180) 2 0) (zad S (b + 180) 2 0) := aS.start zad_K (by omega)
  refine al_step (n := 30) h0 rfl rfl (by decide) (by decide) (by decide) (fun j => rfl) (fun S1 h1 => ?_)
  refine al_step (n := 30) h1 rfl rfl (by decide) (by decide) (by decide) (fun j => rfl) (fun S2 h2 => ?_)
  obtain ⟨K2, iv2, rv2, lv2⟩ := S2
  obtain ⟨r0, k0⟩ := h2.at 0 rfl
  have hz := h2.ze (vf := fun _ => 0) (by decide) (by decide)
  have k2 := (h2.at 1 rfl).2
  have kz := h2.1
  have hex := h2.ex
  refine zw.e (zgr_at h2.1 r0) ?_
  refine zw.e (show zbud 2 60 (0 + 1 + 1) (0 + 30 + 30) 0 0 = some () from by decide) ?_
  refine zw.c (c_fill (x := -1) k0 (by decide) (by omega)) ?_
  rintro S ⟨iv3, rfl, f3, g3⟩
  rw [zfin_at ⟨by decide, by decide⟩]
  refine zw.s ⟨rfl, fun a ha => ⟨(hex a ha).1, fun j => (f3 a j (by omega)).trans ((hex a ha).2.1 j), (hex a ha).2.2⟩, ⟨h2.1, h2.at 0 rfl, h2.at 1 rfl⟩, fun j => (f3 _ j (by omega)).trans ((hz _ (by omega) (by simp) j).trans (by split <;> rfl)), g3, fun j => (f3 _ j (by omega)).trans ((hz _ (by omega) (by simp) j).trans (by split <;> rfl))⟩
end C81
