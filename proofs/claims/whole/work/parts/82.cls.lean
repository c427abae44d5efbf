/-! the class, new -/
section C82
variable {N b B h : Nat} {S : zS}
theorem bui_new {vf : Nat → Int32} (hB : b + 45 < B) (hN : 100 < N) (hv : ∀ a, B ≤ a → vf a = nI 200) : zw (rX1_init N 52 384 (zad S B 1 0) (B + 1) 0 0 B (b + 45) (b + 1)) (fun q => q.2 = B + 53 ∧ eX B B S q.1 ∧ cBuiR b B q.1.1 q.1.2.2.1 ∧ ze vf B (B + 53) q.1) := by
  unfold rX1_init rX1_init_0
  have h0 : aS B 1 (B + 1) [] (fun _ _ => 0) (zad S B 1 0) (zad S B 1 0) := aS.start zad_K (by omega)
  refine al_step (n := 8) h0 rfl rfl (by decide) (by decide) (by decide) (fun j => rfl) (fun S1 h1 => ?_)
  refine al_step (n := 24) h1 rfl rfl (by decide) (by decide) (by decide) (fun j => rfl) (fun S2 h2 => ?_)
  refine al_step (n := 24) h2 rfl rfl (by decide) (by decide) (by decide) (fun j => rfl) (fun S3 h3 => ?_)
  refine al_step (n := 256) h3 rfl rfl (by decide) (by decide) (by decide) (fun j => rfl) (fun S4 h4 => ?_)
  obtain ⟨K4, iv4, rv4, lv4⟩ := S4
  have hz := h4.ze (vf := vf) (by decide) (by decide)
  have hex := h4.ex
  obtain ⟨r0, k0⟩ := h4.at 0 rfl
  obtain ⟨r1, k1⟩ := h4.at 1 rfl
  obtain ⟨r2, k2⟩ := h4.at 2 rfl
  obtain ⟨r3, k3⟩ := h4.at 3 rfl
  have kB := h4.1
  dsimp only at r0 k0 r1 k1 r2 k2 r3 k3 kB hz hex
  clear h0 h1 h2 h3 h4
  refine zw.e (zpr_at kB) ?_
  refine zw.e (zpr_at kB) ?_
  have eR : ∀ a j, ¬ (a = B ∧ j < 2) → zu (zu rv4 B 0 (some (b + 45))) B 1 (some (b + 1)) a j = rv4 a j := fun a j hn => by rw [zu_o (by omega), zu_o (by omega)]
  have e0 : zu (zu rv4 B 0 (some (b + 45))) B 1 (some (b + 1)) B 0 = some (b + 45) := by rw [zu_o (by omega), zu_s]
  have e1 : zu (zu rv4 B 0 (some (b + 45))) B 1 (some (b + 1)) B 1 = some (b + 1) := zu_s
  generalize zu (zu rv4 B 0 (some (b + 45))) B 1 (some (b + 1)) = rv5 at eR e0 e1
  unfold rlX1_init_50
  refine zw.loop (fun m y => ∃ t S6, t + m = 24 ∧ y = (S6, B + 5 + 2 * t, 4 + 2 * t, 312 + 3 * t, B, nI t) ∧ eX (B + 2) (B + 5) (K4, iv4, rv5, lv4) S6 ∧ (∀ t', t' < t → S6.2.2.1 (B + 2) t' = some (B + 5 + 2 * t') ∧ cRoR S6.1 S6.2.2.1 (B + 5 + 2 * t')) ∧ ze vf (B + 5) (B + 5 + 2 * t) S6) ?_ N 24 _ (by omega) ⟨0, _, by omega, rfl, eX.rf, fun t' ht => by omega, fun a g1 g2 => by omega⟩
  rintro m ⟨S6', y1, y2, y3, y4, y5⟩ Kc ⟨t, S6, ht, hy, i1, i2, i3⟩ ih
  cases hy
  dsimp only
  unfold rX1_init_50
  by_cases hm : m = 0
  · have : t = 24 := by omega
    subst this
    refine zw.t (by decide) ?_
    rw [zfin_at ⟨by decide, by decide⟩]
    refine zw.s ⟨rfl, fun a ha => ?_, ⟨?_, ?_, ?_, ⟨?_, ?_⟩, ⟨?_, ?_⟩, ⟨?_, ?_⟩, ⟨?_, ?_⟩, i2⟩, ?_⟩
    · obtain ⟨p1, p2, p3⟩ := i1 a (by omega)
      obtain ⟨q1, q2, q3⟩ := hex a ha
      exact ⟨p1.trans q1, fun j => (p2 j).trans (q2 j), fun hn j => (p3 (by omega) j).trans ((eR a j (by omega)).trans (q3 hn j))⟩
    · exact ((i1 B (by omega)).1).trans kB
    · exact ((i1 B (by omega)).2.2 (by omega) 0).trans e0
    · exact ((i1 B (by omega)).2.2 (by omega) 1).trans e1
    · exact ((i1 B (by omega)).2.2 (by omega) 2).trans ((eR B 2 (by omega)).trans r0)
    · exact ((i1 (B + 1) (by omega)).1).trans k0
    · exact ((i1 B (by omega)).2.2 (by omega) 3).trans ((eR B 3 (by omega)).trans r1)
    · exact ((i1 (B + 2) (by omega)).1).trans k1
    · exact ((i1 B (by omega)).2.2 (by omega) 4).trans ((eR B 4 (by omega)).trans r2)
    · exact ((i1 (B + 3) (by omega)).1).trans k2
    · exact ((i1 B (by omega)).2.2 (by omega) 5).trans ((eR B 5 (by omega)).trans r3)
    · exact ((i1 (B + 4) (by omega)).1).trans k3
    · intro a g1 g2 j
      by_cases e : a < B + 5
      · rw [(i1 a e).2.1 j, (i1 a e).1]; exact hz a g1 (by simp; omega) j
      · exact i3 a (by omega) (by omega) j
  · refine zw.f (nI_ge (show t < 24 by omega) (by decide)) ?_
    refine row_put (n := 200) (t := t) (ar := B + 2) (len := 24) (F := fun S7 z6 => Kc (S7, z6, ((4 + 2 * t + 1) + 1), ((312 + 3 * t + 3) + 0), B, (nI t + (1 : Int32)))) rfl (by decide) (hv _ (by omega)) rfl (by omega) (by decide) (((i1 B (by omega)).1).trans kB) (((i1 B (by omega)).2.2 (by omega) 3).trans ((eR B 3 (by omega)).trans r1)) (((i1 (B + 2) (by omega)).1).trans k1) (by omega) ⟨by omega, by omega⟩ (fun S7 w1 w2 w3 w4 w5 => ?_)
    refine ih (m - 1) _ (by omega) ⟨t + 1, S7, by omega, by rw [nI_1 t, show B + 5 + 2 * t + 2 = B + 5 + 2 * (t + 1) by omega, show 4 + 2 * t + 1 + 1 = 4 + 2 * (t + 1) by omega, show 312 + 3 * t + 3 + 0 = 312 + 3 * (t + 1) by omega], i1.tr w2 (by omega), fun t' ht' => ?_, ?_⟩
    · by_cases e : t' = t
      · rw [e, w4, if_pos rfl]; exact ⟨rfl, w3⟩
      · rw [w4, if_neg e]
        exact ⟨(i2 t' (by omega)).1, (i2 t' (by omega)).2.sm (w2.sm (by omega) (by omega))⟩
    · exact (i3.ex w2 (by omega)).cat (fun a g1 g2 j => w5 a g1 (by omega) j)
theorem wor_new {vf : Nat → Int32} : eX (b + 54) (b + 54) S (zad2 S (b + 54) 8 8) ∧ cWor b (zad2 S (b + 54) 8 8).1 (zad2 S (b + 54) 8 8).2.2.1 ∧ ze vf (b + 54) (b + 63) (zad2 S (b + 54) 8 8) := by
  refine ⟨fun a ha => ⟨?_, fun j => ?_, fun _ j => ?_⟩, ⟨?_, fun r hr => ⟨?_, ?_⟩⟩, fun a g1 g2 j => ?_⟩
  · show (if a = b + 54 then _ else if b + 54 + 1 ≤ a ∧ a < b + 54 + 1 + 8 then _ else S.1 a) = _
    rw [if_neg (by omega), if_neg (by omega)]
  · show (if b + 54 ≤ a ∧ a < b + 54 + 1 + 8 then _ else S.2.1 a j) = _
    rw [if_neg (by omega)]
  · show (if a = b + 54 then _ else if b + 54 ≤ a ∧ a < b + 54 + 1 + 8 then _ else S.2.2.1 a j) = _
    rw [if_neg (by omega), if_neg (by omega)]
  · show (if b + 54 = b + 54 then _ else _) = _
    rw [if_pos rfl]
  · show (if b + 54 = b + 54 then (if r < 8 then some (b + 54 + 1 + r) else none) else _) = _
    rw [if_pos rfl, if_pos hr]
  · show (if b + 55 + r = b + 54 then _ else if b + 54 + 1 ≤ b + 55 + r ∧ b + 55 + r < b + 54 + 1 + 8 then _ else _) = _
    rw [if_neg (by omega), if_pos (by omega)]
  · show (if b + 54 ≤ a ∧ a < b + 54 + 1 + 8 then _ else S.2.1 a j) = if (if a = b + 54 then some (13, 8) else if b + 54 + 1 ≤ a ∧ a < b + 54 + 1 + 8 then some (9, 8) else S.1 a) = some (5, 0) ∧ j = 0 then vf a else 0
    rw [if_pos (show b + 54 ≤ a ∧ a < b + 54 + 1 + 8 by omega)]
    by_cases e : a = b + 54
    · rw [if_pos e, if_neg (fun q => by cases q.1)]
    · rw [if_neg e, if_pos (show b + 54 + 1 ≤ a ∧ a < b + 54 + 1 + 8 by omega), if_neg (fun q => by cases q.1)]
theorem cOrd.sm {K K' : Nat → Option (Nat × Nat)} {rv rv' : Nat → Nat → Option Nat} {wn : Nat} (e : smC (b + 176) (b + 180) K K' rv rv') (h : cOrd b (b + 177) wn K rv) : cOrd b (b + 177) wn K' rv' := by
  obtain ⟨h1, h2, h3, h4, h5, h6⟩ := h
  exact ⟨e.k (by omega) (by omega) h1, ⟨e.r (by omega) (by omega) h2.1, e.k (by omega) (by omega) h2.2⟩, ⟨e.r (by omega) (by omega) h3.1, e.k (by omega) (by omega) h3.2⟩, ⟨e.r (by omega) (by omega) h4.1, e.k (by omega) (by omega) h4.2⟩, h5, h6⟩
/-- where the parts lie -/
def adr (f : Nat) : Nat := [1, 45, 54, 63, 116, 169, 176, 180].getD f 0
def tR (h i : Nat) (S : zS) : Prop := S.1 h = some (7, 0) ∧ ∀ f, f < i → S.2.2.1 h f = some (h + adr f)
theorem top_put {β : Type} {P : β → Prop} {i z : Nat} {S S4 : zS} {F : zS → Option β} (hR : tR h i S) (he : eX z z S S4) (hz : z = h + adr i) (hlt : h < z) (k : ∀ S6, S6.1 = S4.1 → S6.2.1 = S4.2.1 → (∀ a, a ≠ h → S6.2.2.1 a = S4.2.2.1 a) → tR h (i + 1) S6 → eX h z S S6 → zw (F S6) P) : zw ((zpr S4 h 7 i z).bind F) P := by
  have k4 : S4.1 h = some (7, 0) := ((he h hlt).1).trans hR.1
  have hpr : zpr S4 h 7 i z = some (S4.1, S4.2.1, zu S4.2.2.1 h i (some z), S4.2.2.2) := zpr_at (K := S4.1) (iv := S4.2.1) (rv := S4.2.2.1) (lv := S4.2.2.2) k4
  refine zw.e hpr ?_
  refine k _ rfl rfl (fun a ha => zu_ne ha) ⟨k4, fun f hf => ?_⟩ (fun a ha => ⟨(he a ha).1, (he a ha).2.1, fun hn j => ?_⟩)
  · show zu S4.2.2.1 h i (some z) h f = _
    by_cases e : f = i
    · rw [e, zu_s, hz]
    · rw [zu_o (fun q => e q.2), (he h hlt).2.2 (by omega) f]
      exact hR.2 f (by omega)
  · show zu S4.2.2.1 h i (some z) a j = _
    rw [zu_o (fun q => hn q.1)]
    exact (he a ha).2.2 (by omega) j
theorem put_sm {S4 S6 : zS} {lo hi : Nat} (e1 : S6.1 = S4.1) (e3 : ∀ a, a ≠ h → S6.2.2.1 a = S4.2.2.1 a) (hlo : h < lo) : smC lo hi S4.1 S6.1 S4.2.2.1 S6.2.2.1 := fun a g1 g2 => ⟨by rw [e1], fun j => by rw [e3 a (by omega)]⟩
theorem put_ze {S4 S6 : zS} {lo hi : Nat} {vf : Nat → Int32} (e1 : S6.1 = S4.1) (e2 : S6.2.1 = S4.2.1) (hz : ze vf lo hi S4) : ze vf lo hi S6 := fun a g1 g2 j => by rw [e1, e2]; exact hz a g1 g2 j
theorem tR.zad {i z t n : Nat} (hR : tR h i S) (hlt : h < z) : tR h i (zad S z t n) := ⟨((zad_ex h hlt).1).trans hR.1, fun f hf => ((zad_ex h hlt).2.2 (by omega) f).trans (hR.2 f hf)⟩
/-- the most of a row -/
def vfh (h a : Nat) : Int32 := if a < h + 63 then nI 60 else nI 200
/-- the class's object, as it is made -/
theorem cls_new (hN : 100 < N) (S0 : zS) : zw (rX7_init N 182 4831 (zad S0 h 7 0) (h + 1) 0 0 h) (fun q => q.2 = h + 183 ∧ cLR h (h + 174) (h + 175) (h + 177) 1 q.1.1 q.1.2.2.1 ∧ (∀ a, h ≤ a → a < h + 183 → a ≠ h + 181 → ∀ j, q.1.2.1 a j = if q.1.1 a = some (5, 0) ∧ j = 0 then vfh h a else 0) ∧ (∀ j, j < 30 → q.1.2.1 (h + 181) j = -1) ∧ ∀ a, a < h → q.1.1 a = S0.1 a) := by
  have t0 : tR h 0 (zad S0 h 7 0) := ⟨zad_K, fun f hf => by omega⟩
  have hv1 : ∀ a, a < h + 45 → vfh h a = nI 60 := fun a ha => if_pos (by omega)
  have hv2 : ∀ a, h + 63 ≤ a → vfh h a = nI 200 := fun a ha => if_neg (by omega)
  have z0 : ze (vfh h) h (h + 1) (zad S0 h 7 0) := fun a g1 g2 j => by rw [show a = h by omega, zad_K, if_neg (fun q => by cases q.1)]; exact zad_0 j
  have lo0 : ∀ a, a < h → (zad S0 h 7 0).1 a = S0.1 a := fun a ha => (zad_ex a ha).1
  generalize zad S0 h 7 0 = T0 at t0 z0 lo0
  unfold rX7_init rX7_init_0
  refine zw.e (show zbud 182 4831 0 0 1 4 = some () from by decide) ?_
  unfold zlet
  refine zw.e (show zbud 182 4831 (0 + 1) (0 + 4) 43 83 = some () from by decide) ?_
  refine zw.c2 (tex_new (b := h) (S := T0) hN hv1) ?_
  rintro V0 z0' ⟨ez, e0, c0, y0⟩
  dsimp only at ez e0 c0 y0
  subst ez
  refine top_put t0 e0 rfl (by omega) (fun T1 s1 s2 s3 t1 eT0 => ?_)
  have lo1 : ∀ a, a < h → T1.1 a = S0.1 a := fun a ha => ((eT0 a (by omega)).1).trans (lo0 a ha)
  have cx := c0.sm (put_sm (h := h) (lo := h + 1) (hi := h + 45) s1 s3 (by omega))
  have z1 := (z0.ex eT0 (Nat.le_refl _)).cat (put_ze s1 s2 y0)
  clear s1 s2 s3 e0 c0 y0 eT0 z0 t0
  refine zw.e (show zbud 182 4831 ((0 + 1) + 43) ((0 + 4) + 83) 1 10 = some () from by decide) ?_
  dsimp only
  refine zw.e (show zbud 182 4831 (((0 + 1) + 43) + 1) (((0 + 4) + 83) + 10) 8 264 = some () from by decide) ?_
  refine zw.c2 (pla_new (b := h) (S := T1) (vf := vfh h)) ?_
  rintro V1 z1' ⟨ez, e1, c1, y1⟩
  dsimp only at ez e1 c1 y1
  subst ez
  refine top_put t1 e1 rfl (by omega) (fun T2 s1 s2 s3 t2 eT1 => ?_)
  have lo2 : ∀ a, a < h → T2.1 a = S0.1 a := fun a ha => ((eT1 a (by omega)).1).trans (lo1 a ha)
  have cx := cx.sm (eT1.sm (lo := h + 1) (hi := h + 45) (by omega) (by omega))
  have cp := c1.sm (put_sm (h := h) (lo := h + 45) (hi := h + 54) s1 s3 (by omega))
  have z2 := (z1.ex eT1 (Nat.le_refl _)).cat (put_ze s1 s2 y1)
  clear s1 s2 s3 e1 c1 y1 eT1 z1 t1
  refine zw.e (show zbud 182 4831 ((((0 + 1) + 43) + 1) + 8) ((((0 + 4) + 83) + 10) + 264) 9 72 = some () from by decide) ?_
  obtain ⟨e2, c2, y2⟩ := wor_new (b := h) (S := T2) (vf := vfh h)
  refine top_put t2 e2 rfl (by omega) (fun T3 s1 s2 s3 t3 eT2 => ?_)
  have lo3 : ∀ a, a < h → T3.1 a = S0.1 a := fun a ha => ((eT2 a (by omega)).1).trans (lo2 a ha)
  have cx := cx.sm (eT2.sm (lo := h + 1) (hi := h + 45) (by omega) (by omega))
  have cp := cp.sm (eT2.sm (lo := h + 45) (hi := h + 54) (by omega) (by omega))
  have cw := c2.sm (put_sm (h := h) (lo := h + 54) (hi := h + 63) s1 s3 (by omega))
  have z3 := (z2.ex eT2 (Nat.le_refl _)).cat (put_ze s1 s2 y2)
  clear s1 s2 s3 e2 c2 y2 eT2 z2 t2
  refine zw.e (show zbud 182 4831 (((((0 + 1) + 43) + 1) + 8) + 9) (((((0 + 4) + 83) + 10) + 264) + 72) 1 7 = some () from by decide) ?_
  have td3 := t3.zad (z := h + 63) (t := 1) (n := 0) (by omega)
  refine zw.e (show zgr (zad T3 (h + 63) 1 0) h 7 1 = some (h + 45) from zgr_at (K := (zad T3 (h + 63) 1 0).1) (iv := (zad T3 (h + 63) 1 0).2.1) (rv := (zad T3 (h + 63) 1 0).2.2.1) (lv := (zad T3 (h + 63) 1 0).2.2.2) td3.1 (td3.2 1 (by decide))) ?_
  refine zw.e (show zgr (zad T3 (h + 63) 1 0) h 7 0 = some (h + 1) from zgr_at (K := (zad T3 (h + 63) 1 0).1) (iv := (zad T3 (h + 63) 1 0).2.1) (rv := (zad T3 (h + 63) 1 0).2.2.1) (lv := (zad T3 (h + 63) 1 0).2.2.2) td3.1 (td3.2 0 (by decide))) ?_
  refine zw.e (show zbud 182 4831 ((((((0 + 1) + 43) + 1) + 8) + 9) + 1) ((((((0 + 4) + 83) + 10) + 264) + 72) + 7) 52 384 = some () from by decide) ?_
  refine zw.c2 (bui_new (b := h) (B := h + 63) (S := T3) (by omega) hN hv2) ?_
  rintro V3 z3' ⟨ez, e3, c3, y3⟩
  dsimp only at ez e3 c3 y3
  subst ez
  refine top_put t3 e3 rfl (by omega) (fun T4 s1 s2 s3 t4 eT3 => ?_)
  have lo4 : ∀ a, a < h → T4.1 a = S0.1 a := fun a ha => ((eT3 a (by omega)).1).trans (lo3 a ha)
  have cx := cx.sm (eT3.sm (lo := h + 1) (hi := h + 45) (by omega) (by omega))
  have cp := cp.sm (eT3.sm (lo := h + 45) (hi := h + 54) (by omega) (by omega))
  have cw := cw.sm (eT3.sm (lo := h + 54) (hi := h + 63) (by omega) (by omega))
  have cb1 := c3.sm (put_sm (h := h) (lo := h + 63) (hi := h + 116) s1 s3 (by omega))
  have z4 := (z3.ex eT3 (Nat.le_refl _)).cat (put_ze s1 s2 y3)
  clear s1 s2 s3 e3 c3 y3 eT3 z3 t3
  refine zw.e (show zbud 182 4831 (((((((0 + 1) + 43) + 1) + 8) + 9) + 1) + 52) (((((((0 + 4) + 83) + 10) + 264) + 72) + 7) + 384) 1 7 = some () from by decide) ?_
  have td4 := t4.zad (z := h + 116) (t := 1) (n := 0) (by omega)
  refine zw.e (show zgr (zad T4 (h + 116) 1 0) h 7 1 = some (h + 45) from zgr_at (K := (zad T4 (h + 116) 1 0).1) (iv := (zad T4 (h + 116) 1 0).2.1) (rv := (zad T4 (h + 116) 1 0).2.2.1) (lv := (zad T4 (h + 116) 1 0).2.2.2) td4.1 (td4.2 1 (by decide))) ?_
  refine zw.e (show zgr (zad T4 (h + 116) 1 0) h 7 0 = some (h + 1) from zgr_at (K := (zad T4 (h + 116) 1 0).1) (iv := (zad T4 (h + 116) 1 0).2.1) (rv := (zad T4 (h + 116) 1 0).2.2.1) (lv := (zad T4 (h + 116) 1 0).2.2.2) td4.1 (td4.2 0 (by decide))) ?_
  refine zw.e (show zbud 182 4831 ((((((((0 + 1) + 43) + 1) + 8) + 9) + 1) + 52) + 1) ((((((((0 + 4) + 83) + 10) + 264) + 72) + 7) + 384) + 7) 52 384 = some () from by decide) ?_
  refine zw.c2 (bui_new (b := h) (B := h + 116) (S := T4) (by omega) hN (fun a ha => hv2 a (by omega))) ?_
  rintro V4 z4' ⟨ez, e4, c4, y4⟩
  dsimp only at ez e4 c4 y4
  subst ez
  refine top_put t4 e4 rfl (by omega) (fun T5 s1 s2 s3 t5 eT4 => ?_)
  have lo5 : ∀ a, a < h → T5.1 a = S0.1 a := fun a ha => ((eT4 a (by omega)).1).trans (lo4 a ha)
  have cx := cx.sm (eT4.sm (lo := h + 1) (hi := h + 45) (by omega) (by omega))
  have cp := cp.sm (eT4.sm (lo := h + 45) (hi := h + 54) (by omega) (by omega))
  have cw := cw.sm (eT4.sm (lo := h + 54) (hi := h + 63) (by omega) (by omega))
  have cb1 := cb1.sm (eT4.sm (lo := h + 63) (hi := h + 116) (by omega) (by omega))
  have cb2 := c4.sm (put_sm (h := h) (lo := h + 116) (hi := h + 169) s1 s3 (by omega))
  have z5 := (z4.ex eT4 (Nat.le_refl _)).cat (put_ze s1 s2 y4)
  clear s1 s2 s3 e4 c4 y4 eT4 z4 t4
  refine zw.e (show zbud 182 4831 (((((((((0 + 1) + 43) + 1) + 8) + 9) + 1) + 52) + 1) + 52) (((((((((0 + 4) + 83) + 10) + 264) + 72) + 7) + 384) + 7) + 384) 1 7 = some () from by decide) ?_
  refine zw.e (show zbud 182 4831 ((((((((((0 + 1) + 43) + 1) + 8) + 9) + 1) + 52) + 1) + 52) + 1) ((((((((((0 + 4) + 83) + 10) + 264) + 72) + 7) + 384) + 7) + 384) + 7) 6 3502 = some () from by decide) ?_
  refine zw.c2 (ali_new (b := h) (S := T5) (vf := vfh h)) ?_
  rintro V5 z5' ⟨ez, e5, c5, y5⟩
  dsimp only at ez e5 c5 y5
  subst ez
  refine top_put t5 e5 rfl (by omega) (fun T6 s1 s2 s3 t6 eT5 => ?_)
  have lo6 : ∀ a, a < h → T6.1 a = S0.1 a := fun a ha => ((eT5 a (by omega)).1).trans (lo5 a ha)
  have cx := cx.sm (eT5.sm (lo := h + 1) (hi := h + 45) (by omega) (by omega))
  have cp := cp.sm (eT5.sm (lo := h + 45) (hi := h + 54) (by omega) (by omega))
  have cw := cw.sm (eT5.sm (lo := h + 54) (hi := h + 63) (by omega) (by omega))
  have cb1 := cb1.sm (eT5.sm (lo := h + 63) (hi := h + 116) (by omega) (by omega))
  have cb2 := cb2.sm (eT5.sm (lo := h + 116) (hi := h + 169) (by omega) (by omega))
  have ca := c5.sm (put_sm (h := h) (lo := h + 169) (hi := h + 176) s1 s3 (by omega))
  have z6 := (z5.ex eT5 (Nat.le_refl _)).cat (put_ze s1 s2 y5)
  clear s1 s2 s3 e5 c5 y5 eT5 z5 t5
  refine zw.e (show zbud 182 4831 (((((((((((0 + 1) + 43) + 1) + 8) + 9) + 1) + 52) + 1) + 52) + 1) + 6) (((((((((((0 + 4) + 83) + 10) + 264) + 72) + 7) + 384) + 7) + 384) + 7) + 3502) 1 3 = some () from by decide) ?_
  refine zw.e (show zbud 182 4831 ((((((((((((0 + 1) + 43) + 1) + 8) + 9) + 1) + 52) + 1) + 52) + 1) + 6) + 1) ((((((((((((0 + 4) + 83) + 10) + 264) + 72) + 7) + 384) + 7) + 384) + 7) + 3502) + 3) 3 41 = some () from by decide) ?_
  refine zw.c2 (ord_new (b := h) (S := T6) (vf := vfh h)) ?_
  rintro V6 z6' ⟨ez, e6, c6, y6⟩
  dsimp only at ez e6 c6 y6
  subst ez
  refine top_put t6 e6 rfl (by omega) (fun T7 s1 s2 s3 t7 eT6 => ?_)
  have lo7 : ∀ a, a < h → T7.1 a = S0.1 a := fun a ha => ((eT6 a (by omega)).1).trans (lo6 a ha)
  have cx := cx.sm (eT6.sm (lo := h + 1) (hi := h + 45) (by omega) (by omega))
  have cp := cp.sm (eT6.sm (lo := h + 45) (hi := h + 54) (by omega) (by omega))
  have cw := cw.sm (eT6.sm (lo := h + 54) (hi := h + 63) (by omega) (by omega))
  have cb1 := cb1.sm (eT6.sm (lo := h + 63) (hi := h + 116) (by omega) (by omega))
  have cb2 := cb2.sm (eT6.sm (lo := h + 116) (hi := h + 169) (by omega) (by omega))
  have ca := ca.sm (eT6.sm (lo := h + 169) (hi := h + 176) (by omega) (by omega))
  have co := c6.sm (put_sm (h := h) (lo := h + 176) (hi := h + 180) s1 s3 (by omega))
  have z7 := (z6.ex eT6 (Nat.le_refl _)).cat (put_ze s1 s2 y6)
  clear s1 s2 s3 e6 c6 y6 eT6 z6 t6
  refine zw.e (show zbud 182 4831 (((((((((((((0 + 1) + 43) + 1) + 8) + 9) + 1) + 52) + 1) + 52) + 1) + 6) + 1) + 3) (((((((((((((0 + 4) + 83) + 10) + 264) + 72) + 7) + 384) + 7) + 384) + 7) + 3502) + 3) + 41) 1 3 = some () from by decide) ?_
  refine zw.e (show zbud 182 4831 ((((((((((((((0 + 1) + 43) + 1) + 8) + 9) + 1) + 52) + 1) + 52) + 1) + 6) + 1) + 3) + 1) ((((((((((((((0 + 4) + 83) + 10) + 264) + 72) + 7) + 384) + 7) + 384) + 7) + 3502) + 3) + 41) + 3) 2 60 = some () from by decide) ?_
  refine zw.c2 (mak_new (b := h) (S := T7) hN) ?_
  rintro V7 z7' ⟨ez, e7, c7, y7, ya, yb⟩
  dsimp only at ez e7 c7 y7 ya yb
  subst ez
  refine top_put t7 e7 rfl (by omega) (fun T8 s1 s2 s3 t8 eT7 => ?_)
  have lo8 : ∀ a, a < h → T8.1 a = S0.1 a := fun a ha => ((eT7 a (by omega)).1).trans (lo7 a ha)
  have cx := cx.sm (eT7.sm (lo := h + 1) (hi := h + 45) (by omega) (by omega))
  have cp := cp.sm (eT7.sm (lo := h + 45) (hi := h + 54) (by omega) (by omega))
  have cw := cw.sm (eT7.sm (lo := h + 54) (hi := h + 63) (by omega) (by omega))
  have cb1 := cb1.sm (eT7.sm (lo := h + 63) (hi := h + 116) (by omega) (by omega))
  have cb2 := cb2.sm (eT7.sm (lo := h + 116) (hi := h + 169) (by omega) (by omega))
  have ca := ca.sm (eT7.sm (lo := h + 169) (hi := h + 176) (by omega) (by omega))
  have co := co.sm (eT7.sm (lo := h + 176) (hi := h + 180) (by omega) (by omega))
  have cm := c7.sm (put_sm (h := h) (lo := h + 180) (hi := h + 183) s1 s3 (by omega))
  rw [zfin_at ⟨by decide, by decide⟩]
  refine zw.s ⟨rfl, ⟨⟨t8.1, t8.2 0 (by decide), t8.2 1 (by decide), t8.2 2 (by decide), t8.2 3 (by decide), t8.2 4 (by decide), t8.2 5 (by decide), t8.2 6 (by decide), t8.2 7 (by decide)⟩, cx, cp, cw, cb1, cb2, ca, co, cm⟩, fun a g1 g2 g3 j => ?_, fun j hj => ?_, lo8⟩
  · show T8.2.1 a j = if T8.1 a = some (5, 0) ∧ j = 0 then vfh h a else 0
    by_cases e : a < h + 180
    · rw [(eT7 a e).2.1 j, (eT7 a e).1]; exact z7 a g1 e j
    · by_cases e2 : a = h + 180
      · rw [e2, cm.1, if_neg (fun q => by cases q.1), s2]; exact y7 j
      · have e3 : a = h + 182 := by omega
        rw [e3, cm.2.2.2, if_neg (fun q => by cases q.1), s2]; exact yb j
  · show T8.2.1 (h + 181) j = -1
    rw [s2]; exact ya j hj
end C82
