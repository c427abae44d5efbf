/-! the class: changes -/
section C18
variable {N b : Nat} {K : Nat → Option (Nat × Nat)} {iv : Nat → Nat → Int32} {rv : Nat → Nat → Option Nat} {lv : Nat → Nat → Int64} {l1 l2 wa wn : Nat} {X Y : List Int32} {s st : Nat} {ch : List (Int32 × Int32 × Int32)}
variable {tp : List Int32} {nt : Nat} {tx : Nat → List Int32} {lk : Nat → Bool} {ns : Nat} {tl : Nat → Nat} {pa : Nat → Int32} {pb : Nat → Nat} {ins : Nat → List Nat} {wd : Nat → Nat → Int32}
abbrev aChg (b : Nat) : Nat → Prop := fun c => b + 169 ≤ c ∧ c < b + 173
theorem c_note {x y v : Int32} (hL : cAli b l1 l2 K rv) (hC : cC b iv ch) (hl : ch.length < 200) : zw (fX0_note N (K, iv, rv, lv) (b + 169) x y v) (fun q => ∃ iv', q = (K, iv', rv, lv) ∧ fQ (aChg b) iv iv' ∧ cC b iv' (ch ++ [(x, y, v)])) := by
  obtain ⟨h1, h2⟩ := hC
  obtain ⟨a1, a2, a3, a4, a5, a6, a7, a8⟩ := hL
  unfold fX0_note fX0_note_0 fX0_note_50
  refine zw.e (zgi_v a1 h1) ?_
  refine zw.f (nI_ge (show ch.length < 200 from hl) (by decide)) ?_
  refine zw.e (zgr_at a1 a2.1) ?_
  refine zw.e (zgi_v a1 h1) ?_
  refine zw.e (zis_v a2.2 rfl hl (by decide)) ?_
  refine zw.e (zgr_at a1 a3.1) ?_
  refine zw.e (zgi_v (x := nI ch.length) a1 (by rw [zu_o (by omega)]; exact h1)) ?_
  refine zw.e (zis_v a3.2 rfl hl (by decide)) ?_
  refine zw.e (zgr_at a1 a4.1) ?_
  refine zw.e (zgi_v (x := nI ch.length) a1 (by rw [zu_o (by omega), zu_o (by omega)]; exact h1)) ?_
  refine zw.e (zis_v a4.2 rfl hl (by decide)) ?_
  refine zw.e (zgi_v (x := nI ch.length) a1 (by rw [zu_o (by omega), zu_o (by omega), zu_o (by omega)]; exact h1)) ?_
  refine zw.e (zpi_at a1) ?_
  refine zw.s ⟨_, rfl, (((fQ.rf.put ⟨by omega, by omega⟩ _ _).put ⟨by omega, by omega⟩ _ _).put ⟨by omega, by omega⟩ _ _).put ⟨by omega, by omega⟩ _ _, ?_, fun i hi => ?_⟩
  · rw [zu_s, nI_1, len_snoc]
  · rw [len_snoc] at hi
    by_cases e : i = ch.length
    · subst e
      simp [zu]
    · have hi2 : i < ch.length := by omega
      have hg : (ch ++ [(x, y, v)]).getD i (0, 0, 0) = ch.getD i (0, 0, 0) := by
        simp only [List.getD_eq_getElem?_getD, List.getElem?_append_left hi2]
      rw [hg]
      obtain ⟨w1, w2, w3⟩ := h2 i hi2
      refine ⟨?_, ?_, ?_⟩
      · rw [← w1]; simp [zu, e]
      · rw [← w2]; simp [zu, e]
      · rw [← w3]; simp [zu, e]
/-- like bytes at the beginning are passed -/
theorem pth_ahead (g1 : st ≤ X.length) (g2 : st ≤ Y.length) (hst : ∀ k, k < st → X.getD k 0 = Y.getD k 0) : pth (lkF X Y) X.length Y.length Y (X.length - st) (Y.length - st) = chg X Y := by
  induction st with
  | zero => rfl
  | succ t ih =>
    rw [← ih (by omega) (by omega) (fun k hk => hst k (by omega))]
    have e1 : X.length - t = (X.length - (t + 1)) + 1 := by omega
    have e2 : Y.length - t = (Y.length - (t + 1)) + 1 := by omega
    rw [e1, e2, pth_ss, if_pos]
    unfold lkF
    rw [show X.length - 1 - (X.length - (t + 1)) = t by omega, show Y.length - 1 - (Y.length - (t + 1)) = t by omega]
    exact decide_eq_true (hst t (by omega))
theorem c_follow (hL : cL b l1 l2 wa wn K rv) (hs : s < 24) (hX : cR iv (b + 63 + 5 + 2 * s) X) (hY : cR iv (b + 116 + 5 + 2 * s) Y) (h1 : X.length ≤ 200) (h2 : Y.length ≤ 200) (g1 : st ≤ X.length) (g2 : st ≤ Y.length) (hst : ∀ k, k < st → X.getD k 0 = Y.getD k 0) (hmv : mvs b iv X Y st st) (hN : 600 < N) :
    zw (fX0_follow N (K, iv, rv, lv) (b + 169) (b + 63 + 5 + 2 * s) (b + 116 + 5 + 2 * s) (nI st)) (fun q => ∃ iv', q = (K, iv', rv, lv) ∧ fQ (aChg b) iv iv' ∧ cC b iv' (chg X Y)) := by
  have hal := hL.2.2.2.2.2.2.1
  obtain ⟨a1, a2, a3, a4, a5, a6, a7, a8⟩ := id hal
  have hx := hL.rowX hs
  have hyr := hL.rowY hs
  have hlen := chg_len h1 h2
  unfold fX0_follow fX0_follow_0
  refine zw.e (zpi_at a1) ?_
  unfold lX0_follow_14
  refine zw.loop (fun t y => ∃ i j k iv1 ch, (X.length - i) + (Y.length - j) = t ∧ st ≤ i ∧ i ≤ X.length ∧ st ≤ j ∧ j ≤ Y.length ∧ k ≤ i + j ∧ y = ((K, iv1, rv, lv), b + 169, b + 63 + 5 + 2 * s, b + 116 + 5 + 2 * s, nI i, nI j, nI k) ∧ fQ (aChg b) iv iv1 ∧ cC b iv1 ch ∧ ch ++ pth (lkF X Y) X.length Y.length Y (X.length - i) (Y.length - j) = chg X Y) ?_ N ((X.length - st) + (Y.length - st)) _ (by omega) ⟨st, st, 0, _, [], rfl, Nat.le_refl _, g1, Nat.le_refl _, g2, by omega, rfl, fQ.rf.put ⟨by omega, by omega⟩ _ _, ⟨zu_s, fun i hi => by cases hi⟩, by rw [List.nil_append]; exact pth_ahead g1 g2 hst⟩
  rintro t ⟨S, x0, x1, x2, x3, x4, x5⟩ Kc ⟨i, j, k, iv1, ch, ht, q1, q2, q3, q4, q5, hy, f1, c1, e1⟩ ih
  cases hy
  dsimp only
  have hX1 : cR iv1 (b + 63 + 5 + 2 * s) X := hX.fr f1 (by omega) (by omega)
  have hY1 : cR iv1 (b + 116 + 5 + 2 * s) Y := hY.fr f1 (by omega) (by omega)
  unfold fX0_follow_14 fX0_follow_121
  by_cases hend : t = 0
  · have hi : i = X.length := by omega
    have hj : j = Y.length := by omega
    subst hi
    subst hj
    rw [Nat.sub_self, Nat.sub_self, pth_00, List.append_nil] at e1
    rw [e1] at c1
    refine zw.it (fun _ => zw.s ⟨iv1, rfl, f1, c1⟩) (fun _ => ?_)
    refine zw.e (zgi_v hx.1 hX1.1) ?_
    refine zw.f (fun q => Int32.lt_irrefl q) ?_
    refine zw.e (zgi_v hyr.1 hY1.1) ?_
    exact zw.t (Int32.le_refl _) (zw.s ⟨iv1, rfl, f1, c1⟩)
  · refine zw.f (nI_ge (show k < 400 by omega) (by decide)) ?_
    have hpl := pth_len (f := lkF X Y) (n := X.length) (m := Y.length) (Y := Y) _ (X.length - i) (Y.length - j) (Nat.le_refl _)
    have hcl : ch.length + (pth (lkF X Y) X.length Y.length Y (X.length - i) (Y.length - j)).length ≤ 200 := by
      rw [← List.length_append, e1]; exact hlen
    -- a move that changes something
    have change : ∀ (mv i' j' : Nat) (v : Int32), (mv = 0 ∨ mv = 1 ∨ mv = 2) → i' = (if mv = 2 then i else i + 1) → j' = (if mv = 1 then j else j + 1) → i' ≤ X.length → j' ≤ Y.length → (pth (lkF X Y) X.length Y.length Y (X.length - i) (Y.length - j) = (nI mv, nI i, v) :: pth (lkF X Y) X.length Y.length Y (X.length - i') (Y.length - j')) → zw (fX0_follow_80 N Kc (K, iv1, rv, lv) (b + 169) (b + 63 + 5 + 2 * s) (b + 116 + 5 + 2 * s) (nI i) (nI j) (nI k) (nI mv) (b + 169) (nI mv) (nI i) v) (fun q => ∃ iv', q = (K, iv', rv, lv) ∧ fQ (aChg b) iv iv' ∧ cC b iv' (chg X Y)) := by
      intro mv i' j' v hm hi' hj' hi2 hj2 he
      rw [he, List.length_cons] at hcl
      unfold fX0_follow_80
      refine zw.e (zrc_at a1) ?_
      refine zw.c (c_note hal c1 (by omega)) ?_
      rintro S ⟨iv2, rfl, f2, c2⟩
      have next : zw (Kc ((K, iv2, rv, lv), b + 169, b + 63 + 5 + 2 * s, b + 116 + 5 + 2 * s, nI i', nI j', nI k + 1)) (fun q => ∃ iv', q = (K, iv', rv, lv) ∧ fQ (aChg b) iv iv' ∧ cC b iv' (chg X Y)) := by
        refine ih ((X.length - i') + (Y.length - j')) _ ?_ ⟨i', j', k + 1, iv2, ch ++ [(nI mv, nI i, v)], rfl, ?_, hi2, ?_, hj2, ?_, by rw [nI_1 k], f1.tr f2, c2, by rw [List.append_assoc, ← e1, he]; rfl⟩
        · rcases hm with rfl | rfl | rfl <;> simp at hi' hj' <;> omega
        · rcases hm with rfl | rfl | rfl <;> simp at hi' hj' <;> omega
        · rcases hm with rfl | rfl | rfl <;> simp at hi' hj' <;> omega
        · rcases hm with rfl | rfl | rfl <;> simp at hi' hj' <;> omega
      unfold fX0_follow_83 fX0_follow_96 fX0_follow_112
      rcases hm with rfl | rfl | rfl
      · simp at hi' hj'
        subst hi'
        subst hj'
        refine zw.f (by decide) (zw.f (by decide) ?_)
        rw [nI_1, nI_1]
        exact next
      · simp at hi' hj'
        subst hi'
        subst hj'
        refine zw.f (by decide) (zw.t (by decide) ?_)
        rw [nI_1, show nI j' + (0 : Int32) = nI j' from nI_add j' 0]
        exact next
      · simp at hi' hj'
        subst hi'
        subst hj'
        refine zw.t (by decide) (zw.f (by decide) ?_)
        rw [nI_1, show nI i' + (0 : Int32) = nI i' from nI_add i' 0]
        exact next
    have go : zw (fX0_follow_40 N Kc (K, iv1, rv, lv) (b + 169) (b + 63 + 5 + 2 * s) (b + 116 + 5 + 2 * s) (nI i) (nI j) (nI k)) (fun q => ∃ iv', q = (K, iv', rv, lv) ∧ fQ (aChg b) iv iv' ∧ cC b iv' (chg X Y)) := by
      unfold fX0_follow_40
      refine zw.e (zrc_at a1) ?_
      have fin : ∀ mv : Nat, mv < 4 → (mv = 3 → i < X.length ∧ j < Y.length ∧ pth (lkF X Y) X.length Y.length Y (X.length - i) (Y.length - j) = pth (lkF X Y) X.length Y.length Y (X.length - (i + 1)) (Y.length - (j + 1))) → (mv = 0 → i < X.length ∧ j < Y.length ∧ pth (lkF X Y) X.length Y.length Y (X.length - i) (Y.length - j) = (nI 0, nI i, Y.getD j 0) :: pth (lkF X Y) X.length Y.length Y (X.length - (i + 1)) (Y.length - (j + 1))) → (mv = 1 → i < X.length ∧ pth (lkF X Y) X.length Y.length Y (X.length - i) (Y.length - j) = (nI 1, nI i, 0) :: pth (lkF X Y) X.length Y.length Y (X.length - (i + 1)) (Y.length - j)) → (mv = 2 → j < Y.length ∧ pth (lkF X Y) X.length Y.length Y (X.length - i) (Y.length - j) = (nI 2, nI i, Y.getD j 0) :: pth (lkF X Y) X.length Y.length Y (X.length - i) (Y.length - (j + 1))) → zw (if nI mv = (3 : Int32) then fX0_follow_83 N Kc (K, iv1, rv, lv) (b + 169) (b + 63 + 5 + 2 * s) (b + 116 + 5 + 2 * s) (nI i) (nI j) (nI k) (nI mv) else if nI mv = (1 : Int32) then fX0_follow_80 N Kc (K, iv1, rv, lv) (b + 169) (b + 63 + 5 + 2 * s) (b + 116 + 5 + 2 * s) (nI i) (nI j) (nI k) (nI mv) (b + 169) (nI mv) (nI i) (0 : Int32) else (zgr (K, iv1, rv, lv) (b + 116 + 5 + 2 * s) 5 0).bind fun v6 => (zib (K, iv1, rv, lv) v6 (nI j)).bind fun v7 => fX0_follow_80 N Kc (K, iv1, rv, lv) (b + 169) (b + 63 + 5 + 2 * s) (b + 116 + 5 + 2 * s) (nI i) (nI j) (nI k) (nI mv) (b + 169) (nI mv) (nI i) v7) (fun q => ∃ iv', q = (K, iv', rv, lv) ∧ fQ (aChg b) iv iv' ∧ cC b iv' (chg X Y)) := by
        intro mv hmv m3 m0 m1 m2
        have hcase : mv = 0 ∨ mv = 1 ∨ mv = 2 ∨ mv = 3 := by omega
        rcases hcase with e | e | e | e
        · subst e
          obtain ⟨w1, w2, w3⟩ := m0 rfl
          refine zw.f (by decide) (zw.f (by decide) ?_)
          refine zw.e (zgr_at hyr.1 hyr.2.1) ?_
          refine zw.e (zib_v hyr.2.2 rfl (by omega) (by decide) hY1.1 w2 (by omega) (hY1.at w2)) ?_
          exact change 0 (i + 1) (j + 1) _ (by omega) (by simp) (by simp) (by omega) (by omega) w3
        · subst e
          obtain ⟨w1, w3⟩ := m1 rfl
          refine zw.f (by decide) (zw.t (by decide) ?_)
          exact change 1 (i + 1) j _ (by omega) (by simp) (by simp) (by omega) (by omega) w3
        · subst e
          obtain ⟨w1, w3⟩ := m2 rfl
          refine zw.f (by decide) (zw.f (by decide) ?_)
          refine zw.e (zgr_at hyr.1 hyr.2.1) ?_
          refine zw.e (zib_v hyr.2.2 rfl (by omega) (by decide) hY1.1 w1 (by omega) (hY1.at w1)) ?_
          exact change 2 i (j + 1) _ (by omega) (by simp) (by simp) (by omega) (by omega) w3
        · subst e
          obtain ⟨w1, w2, w3⟩ := m3 rfl
          refine zw.t (by decide) ?_
          unfold fX0_follow_83 fX0_follow_96 fX0_follow_112
          refine zw.f (by decide) (zw.f (by decide) ?_)
          rw [nI_1, nI_1]
          exact ih ((X.length - (i + 1)) + (Y.length - (j + 1))) _ (by omega) ⟨i + 1, j + 1, k + 1, iv1, ch, rfl, by omega, by omega, by omega, by omega, by omega, by rw [nI_1 k], f1, c1, by rw [← w3]; exact e1⟩
      have mvat : ∃ mv : Nat, mv < 4 ∧ fX0_moveAt N (K, iv1, rv, lv) (b + 169) (b + 63 + 5 + 2 * s) (b + 116 + 5 + 2 * s) (nI i) (nI j) = some (nI mv, (K, iv1, rv, lv)) ∧ (mv = 3 → i < X.length ∧ j < Y.length ∧ pth (lkF X Y) X.length Y.length Y (X.length - i) (Y.length - j) = pth (lkF X Y) X.length Y.length Y (X.length - (i + 1)) (Y.length - (j + 1))) ∧ (mv = 0 → i < X.length ∧ j < Y.length ∧ pth (lkF X Y) X.length Y.length Y (X.length - i) (Y.length - j) = (nI 0, nI i, Y.getD j 0) :: pth (lkF X Y) X.length Y.length Y (X.length - (i + 1)) (Y.length - (j + 1))) ∧ (mv = 1 → i < X.length ∧ pth (lkF X Y) X.length Y.length Y (X.length - i) (Y.length - j) = (nI 1, nI i, 0) :: pth (lkF X Y) X.length Y.length Y (X.length - (i + 1)) (Y.length - j)) ∧ (mv = 2 → j < Y.length ∧ pth (lkF X Y) X.length Y.length Y (X.length - i) (Y.length - j) = (nI 2, nI i, Y.getD j 0) :: pth (lkF X Y) X.length Y.length Y (X.length - i) (Y.length - (j + 1))) := by
        unfold fX0_moveAt fX0_moveAt_0
        rw [zgi_v hx.1 hX1.1, Option.bind_some]
        by_cases hi : i < X.length
        · rw [if_pos (nI_lt hi (by omega)), zgi_v hyr.1 hY1.1, Option.bind_some]
          have ea : X.length - i = (X.length - (i + 1)) + 1 := by omega
          by_cases hj : j < Y.length
          · rw [if_pos (nI_lt hj (by omega)), zgr_at a1 a5.1, Option.bind_some]
            have e0 : nI i * (200 : Int32) + nI j = nI (200 * i + j) := by rw [show (200 : Int32) = nI 200 from rfl, nI_mul, nI_add, Nat.mul_comm]
            rw [e0, shr_4 (by omega), low_4, zil_v a5.2 rfl (by omega) (by decide) rfl, Option.bind_some]
            have hg : gM b iv1 (200 * i + j) = nI (mvV (lkF X Y) (X.length - 1 - i) (Y.length - 1 - j)) := by
              rw [← hmv i j q1 hi q3 hj]
              unfold gM
              rw [f1 _ _ (by omega)]
            unfold gM at hg
            have eb : Y.length - j = (Y.length - (j + 1)) + 1 := by omega
            rw [show X.length - 1 - i = X.length - (i + 1) by omega, show Y.length - 1 - j = Y.length - (j + 1) by omega] at hg
            refine ⟨mvV (lkF X Y) (X.length - (i + 1)) (Y.length - (j + 1)), mvV_lt _ _ _, by rw [hg], ?_⟩
            rw [ea, eb, pth_ss]
            rw [show X.length - (X.length - (i + 1) + 1) = i by omega, show Y.length - (Y.length - (j + 1) + 1) = j by omega]
            generalize hA : X.length - (i + 1) = A
            generalize hB : Y.length - (j + 1) = B
            unfold mvV
            by_cases z3 : lkF X Y A B = true
            · rw [if_pos z3, if_pos z3]
              exact ⟨fun _ => ⟨hi, hj, rfl⟩, (fun q => by cases q), (fun q => by cases q), (fun q => by cases q)⟩
            · rw [if_neg z3, if_neg z3]
              by_cases z0 : edt (lkF X Y) A B + 1 = edt (lkF X Y) (A + 1) (B + 1)
              · rw [if_pos z0, if_pos z0]
                exact ⟨(fun q => by cases q), fun _ => ⟨hi, hj, rfl⟩, (fun q => by cases q), (fun q => by cases q)⟩
              · rw [if_neg z0, if_neg z0]
                by_cases z1 : edt (lkF X Y) A (B + 1) + 1 = edt (lkF X Y) (A + 1) (B + 1)
                · rw [if_pos z1, if_pos z1]
                  exact ⟨(fun q => by cases q), (fun q => by cases q), fun _ => ⟨hi, rfl⟩, (fun q => by cases q)⟩
                · rw [if_neg z1, if_neg z1]
                  exact ⟨(fun q => by cases q), (fun q => by cases q), (fun q => by cases q), fun _ => ⟨hj, rfl⟩⟩
          · rw [if_neg (nI_nlt (show Y.length ≤ j by omega) (by omega))]
            have eb : Y.length - j = 0 := by omega
            refine ⟨1, by decide, rfl, (fun q => by cases q), (fun q => by cases q), fun _ => ⟨hi, ?_⟩, (fun q => by cases q)⟩
            rw [ea, eb, pth_s0, show X.length - (X.length - (i + 1) + 1) = i by omega]
            rfl
        · rw [if_neg (nI_nlt (show X.length ≤ i by omega) (by omega))]
          have hj : j < Y.length := by omega
          have ea : X.length - i = 0 := by omega
          have eb : Y.length - j = (Y.length - (j + 1)) + 1 := by omega
          refine ⟨2, by decide, rfl, (fun q => by cases q), (fun q => by cases q), (fun q => by cases q), fun _ => ⟨hj, ?_⟩⟩
          rw [ea, eb, pth_0s, show X.length - 0 = i by omega, show Y.length - (Y.length - (j + 1) + 1) = j by omega]
          rfl
      obtain ⟨mv, w0, w1, w2, w3, w4, w5⟩ := mvat
      refine zw.e2 w1 ?_
      exact fin mv w0 w2 w3 w4 w5
    refine zw.e (zgi_v hx.1 hX1.1) ?_
    by_cases hi : i < X.length
    · exact zw.t (nI_lt hi (by omega)) go
    · refine zw.f (nI_nlt (by omega) (by omega)) ?_
      refine zw.e (zgi_v hyr.1 hY1.1) ?_
      exact zw.f (nI_ge (show j < Y.length by omega) (by omega)) go
theorem c_lay (hL : cL b l1 l2 wa wn K rv) (hs : s < 24) (hX : cR iv (b + 63 + 5 + 2 * s) X) (hY : cR iv (b + 116 + 5 + 2 * s) Y) (h1 : X.length ≤ 200) (h2 : Y.length ≤ 200) (hN : 600 < N) :
    zw (fX0_lay N (K, iv, rv, lv) (b + 169) (b + 63 + 5 + 2 * s) (b + 116 + 5 + 2 * s)) (fun q => ∃ iv' rv' k1 k2, q = (K, iv', rv', lv) ∧ cL b k1 k2 wa wn K rv' ∧ fQ (fun c => b + 169 ≤ c ∧ c < b + 176) iv iv' ∧ cC b iv' (chg X Y)) := by
  unfold fX0_lay fX0_lay_0
  refine zw.c2 (c_likeAhead (hL.rowX hs) hX (hL.rowY hs) hY h1 h2 (by decide) (by decide) (by omega)) ?_
  rintro v S ⟨st, e, g1, g2, g3⟩
  cases e
  refine zw.e (zrc_at hL.2.2.2.2.2.2.1.1) ?_
  refine zw.c (c_chooseMoves hL hs hX hY h1 h2 g1 g2 hN) ?_
  rintro S ⟨iv1, rv1, k1, k2, rfl, hL1, f1, hm⟩
  refine zw.e (zrc_at hL1.2.2.2.2.2.2.1.1) ?_
  refine zw.c (c_follow hL1 hs (hX.fr f1 (by omega) (by omega)) (hY.fr f1 (by omega) (by omega)) h1 h2 g1 g2 g3 hm hN) ?_
  rintro S ⟨iv2, rfl, f2, hc⟩
  exact zw.s ⟨iv2, rv1, k1, k2, rfl, hL1, (f1.mo (fun a h => by omega)).tr (f2.mo (fun a h => by omega)), hc⟩
theorem c_changes {x y v : Int32} (hL : cL b l1 l2 wa wn K rv) (hA : cA b iv tp nt tx lk ns tl pa pb ins wd) (hc : cC b iv ch) (hN : 600 < N) :
    zw (fX7_changes N (K, iv, rv, lv) b x y v) (fun q => ∃ iv' rv' k1 k2 ch', q.2 = (K, iv', rv', lv) ∧ cL b k1 k2 wa wn K rv' ∧ fQ (fun c => b + 63 ≤ c ∧ c < b + 176) iv iv' ∧ cC b iv' ch' ∧ (inR 8 x ∧ inR 8 y ∧ inR ns v → chR (spChanges (thg tx lk tl pa pb ins (wd x.toNatClampNeg) v.toNatClampNeg) (thg tx lk tl pa pb ins (wd y.toNatClampNeg) v.toNatClampNeg)) ch q.1 ch') ∧ (¬ (inR 8 x ∧ inR 8 y ∧ inR ns v) → q.1 = -1 ∧ ch' = ch)) := by
  have hn := hA.2.2.2.2.1.1
  have hG := hL.g
  obtain ⟨hC, hX, hPl, hWo, hB1, hB2⟩ := id hG
  unfold fX7_changes fX7_changes_0 fX7_changes_16 fX7_changes_49
  refine zw.e2 c_areRooms ?_
  by_cases h1 : inR 8 x ∧ inR 8 y
  · rw [if_pos h1]
    refine zw.f (by decide) ?_
    refine zw.e (zrc_at hC.1) ?_
    refine zw.e2 (c_isStep hC hPl hA.2.1.1) ?_
    by_cases h2 : inR ns v
    · rw [if_pos h2]
      refine zw.f (by decide) ?_
      have h3 : inR 8 x ∧ inR 8 y ∧ inR ns v := ⟨h1.1, h1.2, h2⟩
      obtain ⟨p, hp, rfl⟩ := h1.1.at (by decide)
      obtain ⟨q, hq, rfl⟩ := h1.2.at (by decide)
      obtain ⟨s, hs, rfl⟩ := h2.at (by omega)
      rw [nI_clamp (show p < 2 ^ 31 by omega), nI_clamp (show q < 2 ^ 31 by omega), nI_clamp (show s < 2 ^ 31 by omega)]
      refine zw.e (zrc_at hC.1) ?_
      refine zw.c (c_both hG hA hp hq hs hN) ?_
      rintro S ⟨iv1, rfl, f1, g1, g2, g3⟩
      have hc1 : cC b iv1 ch := hc.fr f1 (fun a h1 h2 => by omega)
      have s1 := g1 s hs (hA.us hs)
      have s2 := g3 s hs (hA.us hs)
      have b1 : ∀ L, thg tx lk tl pa pb ins (wd p) s = some L → L.length ≤ 200 := fun L e => (cthg_good hA (fun w hw => hA.2.2.2.2.2 p w hp hw) hs e).1
      have b2 : ∀ L, thg tx lk tl pa pb ins (wd q) s = some L → L.length ≤ 200 := fun L e => (cthg_good hA (fun w hw => hA.2.2.2.2.2 q w hq hw) hs e).1
      obtain ⟨u1, u2, u3, u4, u5, u6, u7, u8⟩ := id hB1
      obtain ⟨v1, v2, v3, v4, v5, v6, v7, v8⟩ := id hB2
      have f1' : fQ (fun c => b + 63 ≤ c ∧ c < b + 176) iv iv1 := f1.mo (fun a h => by omega)
      refine zw.e (zgr_at hC.1 hC.2.2.2.2.1) ?_
      refine zw.e (zgr_at u1 u6.1) ?_
      refine zw.e (zzl_v u6.2 rfl (by omega) (by decide) s1.fl) ?_
      cases o1 : thg tx lk tl pa pb ins (wd p) s with
      | none =>
        refine zw.f (by rw [if_pos rfl]; decide) (zw.s ⟨iv1, rv, l1, l2, ch, rfl, hL, f1', hc1, fun _ => ⟨fun _ => ⟨rfl, rfl⟩, fun c e => by cases e⟩, fun q => absurd h3 q⟩)
      | some L1 =>
        refine zw.t (by rw [if_neg (fun q => by cases q)]) ?_
        refine zw.e (zgr_at hC.1 hC.2.2.2.2.2.1) ?_
        refine zw.e (zgr_at v1 v6.1) ?_
        refine zw.e (zzl_v v6.2 rfl (by omega) (by decide) s2.fl) ?_
        cases o2 : thg tx lk tl pa pb ins (wd q) s with
        | none =>
          refine zw.f (by rw [if_pos rfl]; decide) (zw.s ⟨iv1, rv, l1, l2, ch, rfl, hL, f1', hc1, fun _ => ⟨fun _ => ⟨rfl, rfl⟩, fun c e => by cases e⟩, fun q => absurd h3 q⟩)
        | some L2 =>
          refine zw.t (by rw [if_neg (fun q => by cases q)]) ?_
          rw [o1] at s1
          rw [o2] at s2
          refine zw.e (zgr_at hC.1 hC.r_ali) ?_
          refine zw.e (zgr_at hC.1 hC.2.2.2.2.1) ?_
          refine zw.e (zgr_at u1 u5.1) ?_
          refine zw.e (zal_at u5.2 (by omega) (by decide) (u8 s (by omega)).1) ?_
          refine zw.e (zgr_at hC.1 hC.2.2.2.2.2.1) ?_
          refine zw.e (zgr_at v1 v5.1) ?_
          refine zw.e (zal_at v5.2 (by omega) (by decide) (v8 s (by omega)).1) ?_
          refine zw.e (zrc_at hL.2.2.2.2.2.2.1.1) ?_
          refine zw.c (c_lay hL (show s < 24 by omega) s1.2 s2.2 (b1 L1 o1) (b2 L2 o2) hN) ?_
          rintro S ⟨iv2, rv2, k1, k2, rfl, hL2, f2, hc2⟩
          refine zw.e (zgr_at hL2.1.1 hL2.1.r_ali) ?_
          refine zw.e (zgi_v hL2.2.2.2.2.2.2.1.1 hc2.1) ?_
          refine zw.s ⟨iv2, rv2, k1, k2, chg L1 L2, rfl, hL2, f1'.tr (f2.mo (fun a h => by omega)), hc2, fun _ => ⟨(fun q => by cases q), fun c e => ?_⟩, fun q => absurd h3 q⟩
          cases e
          exact ⟨rfl, rfl⟩
    · rw [if_neg h2]
      exact zw.t rfl (zw.s ⟨iv, rv, l1, l2, ch, rfl, hL, fQ.rf, hc, fun q => absurd q.2.2 h2, fun _ => ⟨rfl, rfl⟩⟩)
  · rw [if_neg h1]
    exact zw.t rfl (zw.s ⟨iv, rv, l1, l2, ch, rfl, hL, fQ.rf, hc, fun q => absurd ⟨q.1, q.2.1⟩ h1, fun _ => ⟨rfl, rfl⟩⟩)
end C18
