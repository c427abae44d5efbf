/-! the class: all moves chosen, from the end on -/
section C17
variable {N b : Nat} {K : Nat → Option (Nat × Nat)} {iv : Nat → Nat → Int32} {rv : Nat → Nat → Option Nat} {lv : Nat → Nat → Int64} {l1 l2 wa wn : Nat} {X Y : List Int32} {s st : Nat}
abbrev aAlg (b : Nat) : Nat → Prop := fun c => b + 173 ≤ c ∧ c < b + 176
theorem pred_lt {r t : Nat} (hr : r < 2 ^ 30) (ht : t < 2 ^ 30) : nI r - 1 < nI t ↔ r ≤ t := by
  have e1 : nI r - 1 = Int32.ofInt ((r : Int) - 1) := by
    rw [Int32.ofInt_sub]
    rfl
  rw [e1, Int32.lt_iff_toInt_lt, nI_toInt (by omega), Int32.toInt_ofInt_of_le (by omega) (by omega)]
  omega
theorem pred_m1 (x : Int32) : x + (-1) = x - 1 := (Int32.sub_eq_add_neg x 1).symm
theorem cL.rowX (h : cL b l1 l2 wa wn K rv) (hs : s < 24) : cRow K rv (b + 63 + 5 + 2 * s) 200 := (h.2.2.2.2.1.2.2.2.2.2.2.2 s hs).2
theorem cL.rowY (h : cL b l1 l2 wa wn K rv) (hs : s < 24) : cRow K rv (b + 116 + 5 + 2 * s) 200 := (h.2.2.2.2.2.1.2.2.2.2.2.2.2 s hs).2
/-- the moves from row r on -/
def mvs (b : Nat) (iv : Nat → Nat → Int32) (X Y : List Int32) (st r : Nat) : Prop := ∀ i j, r ≤ i → i < X.length → st ≤ j → j < Y.length → gM b iv (200 * i + j) = nI (mvV (lkF X Y) (X.length - 1 - i) (Y.length - 1 - j))
theorem c_chooseMoves (hL : cL b l1 l2 wa wn K rv) (hs : s < 24) (hX : cR iv (b + 63 + 5 + 2 * s) X) (hY : cR iv (b + 116 + 5 + 2 * s) Y) (h1 : X.length ≤ 200) (h2 : Y.length ≤ 200) (g1 : st ≤ X.length) (g2 : st ≤ Y.length) (hN : 600 < N) :
    zw (fX0_chooseMoves N (K, iv, rv, lv) (b + 169) (b + 63 + 5 + 2 * s) (b + 116 + 5 + 2 * s) (nI st)) (fun q => ∃ iv' rv' k1 k2, q = (K, iv', rv', lv) ∧ cL b k1 k2 wa wn K rv' ∧ fQ (aAlg b) iv iv' ∧ mvs b iv' X Y st st) := by
  have hB : ∀ k1 k2, (k1 = b + 174 ∧ k2 = b + 175) ∨ (k1 = b + 175 ∧ k2 = b + 174) → aAlg b k1 ∧ aAlg b k2 ∧ k1 ≠ k2 := fun k1 k2 h => by omega
  unfold fX0_chooseMoves fX0_chooseMoves_0 lX0_chooseMoves_3
  refine zw.loop (fun t y => ∃ k iv1, k + t = Y.length + 1 ∧ st ≤ k ∧ y = ((K, iv1, rv, lv), b + 169, b + 63 + 5 + 2 * s, b + 116 + 5 + 2 * s, nI st, nI k) ∧ fQ (aAlg b) iv iv1 ∧ ∀ j, st ≤ j → j < k → iv1 l1 j = nI (Y.length - j)) ?_ N (Y.length + 1 - st) _ (by omega) ⟨st, iv, by omega, Nat.le_refl _, rfl, fQ.rf, fun j q1 q2 => by omega⟩
  rintro t ⟨S, x0, x1, x2, x3, x4⟩ Kc ⟨k, iv1, hk, hsk, hy, f1, e1⟩ ih
  cases hy
  dsimp only
  unfold fX0_chooseMoves_3
  have hal := hL.2.2.2.2.2.2.1
  obtain ⟨a1, a2, a3, a4, a5, a6, a7, a8⟩ := id hal
  obtain ⟨b1, b2, b3⟩ := hB l1 l2 a8
  have hx := hL.rowX hs
  have hyr := hL.rowY hs
  have hX1 : cR iv1 (b + 63 + 5 + 2 * s) X := hX.fr f1 (by omega) (by omega)
  have hY1 : cR iv1 (b + 116 + 5 + 2 * s) Y := hY.fr f1 (by omega) (by omega)
  refine zw.e (zgi_v hyr.1 hY1.1) ?_
  by_cases ht : t = 0
  · refine zw.t (nI_lt (show Y.length < k by omega) (by omega)) ?_
    refine zw.e (zgi_v hx.1 hX1.1) ?_
    clear ih
    unfold lX0_chooseMoves_40
    refine zw.loop (fun t y => ∃ r iv2 rv2 p1 p2, r = st + t ∧ r ≤ X.length ∧ y = ((K, iv2, rv2, lv), b + 169, b + 63 + 5 + 2 * s, b + 116 + 5 + 2 * s, nI st, nI r - 1) ∧ cL b p1 p2 wa wn K rv2 ∧ fQ (aAlg b) iv iv2 ∧ (∀ j, st ≤ j → j ≤ Y.length → iv2 p1 j = nI (edt (lkF X Y) (X.length - r) (Y.length - j))) ∧ mvs b iv2 X Y st r) ?_ N (X.length - st) _ (by omega) ⟨X.length, iv1, rv, l1, l2, by omega, Nat.le_refl _, rfl, hL, f1, fun j q1 q2 => by rw [e1 j q1 (by omega), Nat.sub_self, edt_0], fun i j q1 q2 => by omega⟩
    rintro t ⟨S, x0, x1, x2, x3, x4⟩ Kc ⟨r, iv2, rv2, p1, p2, hr, hrx, hy, hL2, f2, e2, v2⟩ ih
    cases hy
    dsimp only
    unfold fX0_chooseMoves_40
    by_cases ht : t = 0
    · refine zw.t ((pred_lt (by omega) (by omega)).mpr (by omega)) (zw.s ⟨iv2, rv2, p1, p2, rfl, hL2, f2, ?_⟩)
      have : r = st := by omega
      rw [this] at v2
      exact v2
    · refine zw.f (fun q => by have := (pred_lt (by omega) (by omega)).mp q; omega) ?_
      have er : nI r - (1 : Int32) = nI (r - 1) := nI_sub (b := 1) (by omega)
      rw [er]
      obtain ⟨a1, a2, a3, a4, a5, a6, a7, a8⟩ := id hL2.2.2.2.2.2.2.1
      obtain ⟨b1, b2, b3⟩ := hB p1 p2 a8
      refine zw.e (zgr_at a1 a6.1) ?_
      refine zw.e (zgr_at a1 a7.1) ?_
      refine zw.e (zpr_at a1) ?_
      refine zw.e (zpr_at a1) ?_
      have hL3 := hL2.sw
      generalize hrv3 : zu (zu rv2 (b + 169) 4 (some p2)) (b + 169) 5 (some p1) = rv3 at hL3
      obtain ⟨c1, c2, c3, c4, c5, c6, c7, c8⟩ := id hL3.2.2.2.2.2.2.1
      have hx3 := hL3.rowX hs
      have hy3 := hL3.rowY hs
      have hX2 : cR iv2 (b + 63 + 5 + 2 * s) X := hX.fr f2 (by omega) (by omega)
      have hY2 : cR iv2 (b + 116 + 5 + 2 * s) Y := hY.fr f2 (by omega) (by omega)
      refine zw.e (zgr_at c1 c6.1) ?_
      refine zw.e (zgi_v hy3.1 hY2.1) ?_
      refine zw.e (zgi_v hx3.1 hX2.1) ?_
      rw [show nI X.length - nI (r - 1) = nI (X.length - (r - 1)) from nI_sub (by omega)]
      refine zw.e (zis_v c6.2 rfl (by omega) (by decide)) ?_
      have f3 : fQ (aAlg b) iv (zu iv2 p2 Y.length (nI (X.length - (r - 1)))) := f2.put b2 _ _
      have hY3 : cR (zu iv2 p2 Y.length (nI (X.length - (r - 1)))) (b + 116 + 5 + 2 * s) Y := hY.fr f3 (by omega) (by omega)
      refine zw.e (zgi_v hy3.1 hY3.1) ?_
      unfold lX0_chooseMoves_90
      refine zw.loop (fun t2 y => ∃ c iv4, c = st + t2 ∧ c ≤ Y.length ∧ y = ((K, iv4, rv3, lv), b + 169, b + 63 + 5 + 2 * s, b + 116 + 5 + 2 * s, nI st, nI (r - 1), nI c - 1) ∧ fQ (aAlg b) iv iv4 ∧ (∀ j, st ≤ j → j ≤ Y.length → iv4 p1 j = nI (edt (lkF X Y) (X.length - r) (Y.length - j))) ∧ (∀ j, c ≤ j → j ≤ Y.length → iv4 p2 j = nI (edt (lkF X Y) (X.length - (r - 1)) (Y.length - j))) ∧ mvs b iv4 X Y st r ∧ ∀ j, c ≤ j → j < Y.length → gM b iv4 (200 * (r - 1) + j) = nI (mvV (lkF X Y) (X.length - 1 - (r - 1)) (Y.length - 1 - j))) ?_ N (Y.length - st) _ (by omega) ⟨Y.length, _, by omega, Nat.le_refl _, rfl, f3, fun j q1 q2 => by rw [zu_o (fun q => b3 q.1)]; exact e2 j q1 q2, fun j q1 q2 => by rw [show j = Y.length by omega, zu_s, Nat.sub_self, edt_a0], fun i j q1 q2 q3 q4 => by
        rw [← v2 i j q1 q2 q3 q4]
        unfold gM
        rw [zu_o (fun q => by omega)], fun j q1 q2 => by omega⟩
      rintro t2 ⟨S, x0, x1, x2, x3, x4, x5⟩ Kc2 ⟨c, iv4, hc, hcy, hy2, f4, e4, e5, v4, v5⟩ ih2
      cases hy2
      dsimp only
      unfold fX0_chooseMoves_90
      by_cases ht2 : t2 = 0
      · refine zw.t ((pred_lt (by omega) (by omega)).mpr (by omega)) ?_
        rw [pred_m1]
        refine ih (t - 1) _ (by omega) ⟨r - 1, iv4, rv3, p2, p1, by omega, by omega, rfl, hL3, f4, fun j q1 q2 => e5 j (by omega) q2, fun i j q1 q2 q3 q4 => ?_⟩
        by_cases e : i = r - 1
        · rw [e]; exact v5 j (by omega) q4
        · exact v4 i j (by omega) q2 q3 q4
      · refine zw.f (fun q => by have := (pred_lt (by omega) (by omega)).mp q; omega) ?_
        have ec : nI c - (1 : Int32) = nI (c - 1) := nI_sub (b := 1) (by omega)
        rw [ec]
        have hX4 : cR iv4 (b + 63 + 5 + 2 * s) X := hX.fr f4 (by omega) (by omega)
        have hY4 : cR iv4 (b + 116 + 5 + 2 * s) Y := hY.fr f4 (by omega) (by omega)
        refine zw.e (zgr_at hx3.1 hx3.2.1) ?_
        refine zw.e (zib_v hx3.2.2 rfl (by omega) (by decide) hX4.1 (by omega) (by omega) (hX4.at (by omega))) ?_
        refine zw.e (zgr_at hy3.1 hy3.2.1) ?_
        refine zw.e (zib_v hy3.2.2 rfl (by omega) (by decide) hY4.1 (by omega) (by omega) (hY4.at (by omega))) ?_
        have hlk : lkF X Y (X.length - r) (Y.length - c) = decide (X.getD (r - 1) 0 = Y.getD (c - 1) 0) := by
          unfold lkF
          rw [show X.length - 1 - (X.length - r) = r - 1 by omega, show Y.length - 1 - (Y.length - c) = c - 1 by omega]
        have body : zw (fX0_chooseMoves_123 N Kc Kc2 (K, iv4, rv3, lv) (b + 169) (b + 63 + 5 + 2 * s) (b + 116 + 5 + 2 * s) (nI st) (nI (r - 1)) (nI (c - 1)) (b + 169) (nI (r - 1)) (nI (c - 1)) (if lkF X Y (X.length - r) (Y.length - c) then 1 else 0)) (fun q => ∃ iv' rv' k1 k2, q = (K, iv', rv', lv) ∧ cL b k1 k2 wa wn K rv' ∧ fQ (aAlg b) iv iv' ∧ mvs b iv' X Y st st) := by
          unfold fX0_chooseMoves_123
          refine zw.e (zrc_at c1) ?_
          refine zw.c (c_chooseMove (f := lkF X Y) (a := X.length - r) (c := Y.length - c) hL3.2.2.2.2.2.2.1 (show r - 1 < 200 by omega) (show c - 1 < 200 by omega) (by omega) (by omega) ?_ ?_ ?_) ?_
          · rw [show c - 1 + 1 = c by omega]; exact e4 c (by omega) hcy
          · rw [e4 (c - 1) (by omega) (by omega), show Y.length - (c - 1) = Y.length - c + 1 by omega]
          · rw [show c - 1 + 1 = c by omega, e5 c (Nat.le_refl _) hcy, show X.length - (r - 1) = X.length - r + 1 by omega]
          · rintro S ⟨iv5, rfl, f5, w1, w2, w3, w4⟩
            rw [pred_m1]
            have f45 : fQ (aAlg b) iv iv5 := f4.tr (f5.mo (fun a h => by
              rcases h with h | h
              · rw [h]; exact ⟨by omega, by omega⟩
              · rw [h]; exact b2))
            refine ih2 (t2 - 1) _ (by omega) ⟨c - 1, iv5, by omega, by omega, rfl, f45, fun j q1 q2 => ?_, fun j q1 q2 => ?_, fun i j q1 q2 q3 q4 => ?_, fun j q1 q2 => ?_⟩
            · rw [f5 _ _ (by omega)]; exact e4 j q1 q2
            · by_cases e : j = c - 1
              · rw [e, w1, show X.length - (r - 1) = X.length - r + 1 by omega, show Y.length - (c - 1) = Y.length - c + 1 by omega]
              · rw [w2 j e]; exact e5 j (by omega) q2
            · rw [w4 _ (by omega) (by omega)]
              exact v4 i j q1 q2 q3 q4
            · by_cases e : j = c - 1
              · rw [e, w3, show X.length - 1 - (r - 1) = X.length - r by omega, show Y.length - 1 - (c - 1) = Y.length - c by omega]
              · rw [w4 _ (by omega) (by omega)]
                exact v5 j (by omega) q2
        rw [hlk] at body
        by_cases e : X.getD (r - 1) 0 = Y.getD (c - 1) 0
        · rw [decide_eq_true e, if_pos rfl] at body
          exact zw.t e body
        · rw [decide_eq_false e, if_neg (by decide)] at body
          exact zw.f e body
  · refine zw.f (nI_nlt (show k ≤ Y.length by omega) (by omega)) ?_
    refine zw.e (zgr_at a1 a6.1) ?_
    refine zw.e (zgi_v hyr.1 hY1.1) ?_
    rw [show nI Y.length - nI k = nI (Y.length - k) from nI_sub (by omega)]
    refine zw.e (zis_v a6.2 rfl (by omega) (by decide)) ?_
    refine ih (t - 1) _ (by omega) ⟨k + 1, _, by omega, by omega, by rw [nI_1 k], f1.put b1 _ _, fun j q1 q2 => ?_⟩
    by_cases e : j = k
    · rw [e, zu_s]
    · rw [zu_o (by omega)]; exact e1 j q1 (by omega)
end C17
