/-! the class: the tools on a row -/
section C4
variable {N b B o : Nat} {K : Nat → Option (Nat × Nat)} {iv : Nat → Nat → Int32} {rv : Nat → Nat → Option Nat} {lv : Nat → Nat → Int64} {S : zS} {J : List Int32}
abbrev aRow (o : Nat) : Nat → Prop := fun c => c = o ∨ c = o + 1
theorem cR.at {iv : Nat → Nat → Int32} {a k : Nat} {L : List Int32} (h : cR iv a L) (hk : k < L.length) : iv (a + 1) k = L.getD k 0 := by
  have := h.2 k hk
  rwa [Nat.zero_add] at this
theorem cR.of {iv : Nat → Nat → Int32} {a : Nat} {L : List Int32} (h1 : iv a 1 = nI L.length) (h2 : ∀ k, k < L.length → iv (a + 1) k = L.getD k 0) : cR iv a L := ⟨h1, fun k hk => by rw [Nat.zero_add]; exact h2 k hk⟩
theorem c_strip {v : Int32} (hr : cRow K rv o 200) (hJ : cR iv o J) (h8 : J.length ≤ 200) (hN : 300 < N) : zw (fX1_strip N (K, iv, rv, lv) o v) (fun q => ∃ iv', q = (K, iv', rv, lv) ∧ fQ (aRow o) iv iv' ∧ cR iv' o (J.filter fun x => decide (x ≠ v))) := by
  obtain ⟨r1, r2, r3⟩ := hr
  unfold fX1_strip fX1_strip_0 lX1_strip_4
  refine zw.loop (fun m y => ∃ k iv1, k + m = J.length ∧ y = ((K, iv1, rv, lv), o, v, nI ((J.take k).filter fun x => decide (x ≠ v)).length, nI k) ∧ fQ (aRow o) iv iv1 ∧ iv1 o 1 = nI J.length ∧ aH iv1 (o + 1) 0 ((J.take k).filter fun x => decide (x ≠ v)) ∧ ∀ j, k ≤ j → j < J.length → iv1 (o + 1) j = J.getD j 0) ?_ N J.length _ (by omega) ⟨0, iv, by omega, rfl, fQ.rf, hJ.1, aH.nil, fun j _ hj => hJ.at hj⟩
  rintro m ⟨S, x0, x1, x2, x3⟩ Kc ⟨k, iv1, hk, hy, hfr, g1, g2, g3⟩ ih
  cases hy
  dsimp only
  unfold fX1_strip_4 fX1_strip_37
  refine zw.e (zgi_v r1 g1) ?_
  have hfl : ((J.take k).filter fun x => decide (x ≠ v)).length ≤ k := Nat.le_trans (List.length_filter_le _ _) (by rw [List.length_take]; omega)
  by_cases hm : m = 0
  · have : k = J.length := by omega
    subst this
    rw [List.take_length] at g2 ⊢
    refine zw.t (Int32.le_refl _) ?_
    refine zw.e (zpz_v r1 g1 rfl (List.length_filter_le _ _) (by omega)) ?_
    exact zw.s ⟨_, rfl, hfr.put (Or.inl rfl) _ _, zu_s, g2.ne (by omega)⟩
  · refine zw.f (nI_ge (show k < J.length by omega) (by omega)) ?_
    refine zw.e (zgr_at r1 r2) ?_
    refine zw.e (zib_v r3 rfl (by omega) (by decide) g1 (by omega) (by omega) (g3 k (Nat.le_refl _) (by omega))) ?_
    have htk : J.take (k + 1) = J.take k ++ [J.getD k 0] := take_snoc (by omega)
    by_cases hv : J.getD k 0 = v
    · refine zw.t hv ?_
      have hfe : (J.take (k + 1)).filter (fun x => decide (x ≠ v)) = (J.take k).filter (fun x => decide (x ≠ v)) := by
        rw [htk, List.filter_append]
        rw [filt0 hv, List.append_nil]
      refine ih (m - 1) _ (by omega) ⟨k + 1, iv1, by omega, by rw [nI_1 k, hfe], hfr, g1, by rw [hfe]; exact g2, fun j h1 h2 => g3 j (by omega) h2⟩
    · refine zw.f hv ?_
      refine zw.e (zgr_at r1 r2) ?_
      refine zw.e (zgr_at r1 r2) ?_
      refine zw.e (zib_v r3 rfl (by omega) (by decide) g1 (by omega) (by omega) (g3 k (Nat.le_refl _) (by omega))) ?_
      refine zw.e (zibs_v r3 rfl (by omega) (by decide) g1 (by omega) (by omega)) ?_
      have hfe : (J.take (k + 1)).filter (fun x => decide (x ≠ v)) = (J.take k).filter (fun x => decide (x ≠ v)) ++ [J.getD k 0] := by
        rw [htk, List.filter_append]
        rw [filt1 hv]
      refine ih (m - 1) _ (by omega) ⟨k + 1, _, by omega, by rw [nI_1 k, hfe, len_snoc, nI_1], hfr.put (Or.inr rfl) _ _, by rw [zu_o (by omega)]; exact g1, ?_, fun j h1 h2 => by rw [zu_o (by omega)]; exact g3 j (by omega) h2⟩
      rw [hfe]
      have h9 := g2.snoc (J.getD k 0)
      rw [Nat.zero_add] at h9
      exact h9
theorem c_mask {v : Int32} (hr : cRow K rv o 200) (hJ : cR iv o J) (h8 : J.length ≤ 200) (hN : 300 < N) : zw (fX1_mask N (K, iv, rv, lv) o v) (fun q => ∃ iv', q = (K, iv', rv, lv) ∧ fQ (aRow o) iv iv' ∧ cR iv' o (J.map fun x => x ^^^ v)) := by
  obtain ⟨r1, r2, r3⟩ := hr
  unfold fX1_mask fX1_mask_0 lX1_mask_2
  refine zw.loop (fun m y => ∃ k iv1, k + m = J.length ∧ y = ((K, iv1, rv, lv), o, v, nI k) ∧ fQ (aRow o) iv iv1 ∧ iv1 o 1 = nI J.length ∧ ∀ j, j < J.length → iv1 (o + 1) j = if j < k then J.getD j 0 ^^^ v else J.getD j 0) ?_ N J.length _ (by omega) ⟨0, iv, by omega, rfl, fQ.rf, hJ.1, fun j hj => by rw [if_neg (by omega)]; exact hJ.at hj⟩
  rintro m ⟨S, x0, x1, x2⟩ Kc ⟨k, iv1, hk, hy, hfr, g1, g2⟩ ih
  cases hy
  dsimp only
  unfold fX1_mask_2
  refine zw.e (zgi_v r1 g1) ?_
  by_cases hm : m = 0
  · have : k = J.length := by omega
    refine zw.t (nI_le (by omega) (by omega)) (zw.s ⟨iv1, rfl, hfr, cR.of (by rw [List.length_map]; exact g1) fun j hj => ?_⟩)
    rw [List.length_map] at hj
    rw [g2 j hj, if_pos (by omega)]
    simp only [List.getD_eq_getElem?_getD, List.getElem?_map, List.getElem?_eq_getElem hj]
    rfl
  · refine zw.f (nI_ge (show k < J.length by omega) (by omega)) ?_
    refine zw.e (zgr_at r1 r2) ?_
    refine zw.e (zib_v (x := J.getD k 0) r3 rfl (by omega) (by decide) g1 (by omega) (by omega) (by rw [g2 k (by omega), if_neg (by omega)])) ?_
    refine zw.e (zibs_v r3 rfl (by omega) (by decide) g1 (by omega) (by omega)) ?_
    refine ih (m - 1) _ (by omega) ⟨k + 1, _, by omega, by rw [nI_1 k], hfr.put (Or.inr rfl) _ _, by rw [zu_o (by omega)]; exact g1, fun j hj => ?_⟩
    by_cases e : j = k
    · rw [e, zu_s, if_pos (by omega)]
    · rw [zu_o (by omega), g2 j hj]
      by_cases e2 : j < k
      · rw [if_pos e2, if_pos (by omega)]
      · rw [if_neg e2, if_neg (by omega)]
theorem c_fill {a n : Nat} {x : Int32} (hk : K a = some (9, n)) (hn : n < 2 ^ 31) (hN : n < N) : zw (fJ7_fill_53178 N (K, iv, rv, lv) a x) (fun q => ∃ iv', q = (K, iv', rv, lv) ∧ fQ (fun c => c = a) iv iv' ∧ ∀ j, j < n → iv' a j = x) := by
  unfold fJ7_fill_53178 fJ7_fill_53178_0
  refine zw.e (zln_at hk) ?_
  unfold lJ7_fill_53178_5
  refine zw.loop (fun m y => ∃ k iv1, k + m = n ∧ y = ((K, iv1, rv, lv), a, x, nI k, nI n) ∧ fQ (fun c => c = a) iv iv1 ∧ ∀ j, j < k → iv1 a j = x) ?_ N n _ hN ⟨0, iv, by omega, rfl, fQ.rf, fun j hj => by omega⟩
  rintro m ⟨S, x0, x1, x2, x3⟩ Kc ⟨k, iv1, hkm, hy, hfr, g⟩ ih
  cases hy
  dsimp only
  unfold fJ7_fill_53178_5
  by_cases hm : m = 0
  · exact zw.t (nI_le (by omega) (by omega)) (zw.s ⟨iv1, rfl, hfr, fun j hj => g j (by omega)⟩)
  · refine zw.f (nI_ge (show k < n by omega) (by omega)) ?_
    refine zw.e (zis_v hk rfl (by omega) hn) ?_
    refine ih (m - 1) _ (by omega) ⟨k + 1, _, by omega, by rw [nI_1 k], hfr.put rfl _ _, fun j hj => ?_⟩
    by_cases e : j = k
    · rw [e, zu_s]
    · rw [zu_o (by omega)]; exact g j (by omega)
theorem byte_id {v : Nat} (hv : v < 256) : nI v &&& (255 : Int32) = nI v := by
  have := fa_mask v 8
  rw [Nat.mod_eq_of_lt (show v < 2 ^ 8 from hv)] at this
  exact this
theorem c_sort (hB : cBui b B K rv) (hr : cRow K rv o 200) (hne : B + 4 < o) (hJ : cR iv o J) (hBy : ∀ x ∈ J, isB x) (h8 : J.length ≤ 200) (hN : 600 < N) : zw (fX1_sort N (K, iv, rv, lv) B o) (fun q => ∃ iv', q = (K, iv', rv, lv) ∧ fQ (fun c => c = B + 4 ∨ aRow o c) iv iv' ∧ cR iv' o (tSort J)) := by
  obtain ⟨u1, u2, u3, u4, u5, u6, u7, u8⟩ := hB
  unfold fX1_sort fX1_sort_0
  refine zw.e (zgr_at u1 u7.1) ?_
  refine zw.c (c_fill (x := 0) u7.2 (by decide) (by omega)) ?_
  rintro S ⟨iv0, rfl, f0, g0⟩
  have hJ0 : cR iv0 o J := hJ.fr f0 (by omega) (by omega)
  unfold lX1_sort_10
  refine zw.loop (fun m y => ∃ k iv2, k + m = J.length ∧ y = ((K, iv2, rv, lv), B, o, nI k) ∧ fQ (fun c => c = B + 4) iv0 iv2 ∧ ∀ v, v < 256 → iv2 (B + 4) v = nI ((J.take k).count (nI v))) ?_ N J.length _ (by omega) ⟨0, iv0, by omega, rfl, fQ.rf, fun v hv => by rw [g0 v hv]; rfl⟩
  rintro m ⟨S, x0, x1, x2⟩ Kc ⟨k, iv2, hk, hy, f2, g2⟩ ih
  cases hy
  dsimp only
  unfold fX1_sort_10
  have hJ2 : cR iv2 o J := hJ0.fr f2 (by omega) (by omega)
  refine zw.e (zgi_v hr.1 hJ2.1) ?_
  by_cases hm : m = 0
  · have : k = J.length := by omega
    subst this
    rw [List.take_length] at g2
    refine zw.t (Int32.le_refl _) ?_
    refine zw.e (zpz_0 hr.1) ?_
    clear ih
    have fA : fQ (fun c => c = B + 4 ∨ aRow o c) iv iv2 := (f0.mo fun a h => Or.inl h).tr (f2.mo fun a h => Or.inl h)
    unfold lX1_sort_50
    refine zw.loop (fun m y => ∃ v iv3, v + m = 256 ∧ y = ((K, iv3, rv, lv), B, o, nI v) ∧ fQ (aRow o) iv2 iv3 ∧ cR iv3 o (soP J v)) ?_ N 256 _ (by omega) ⟨0, _, by omega, rfl, fQ.rf.put (Or.inl rfl) _ _, zu_s, aH.nil⟩
    rintro m ⟨S, x0, x1, x2⟩ Kc ⟨v, iv3, hv, hy, f3, g3⟩ ih
    cases hy
    dsimp only
    unfold fX1_sort_50
    by_cases hm : m = 0
    · have : v = 256 := by omega
      subst this
      exact zw.t (by decide) (zw.s ⟨iv3, rfl, fA.tr (f3.mo fun a h => Or.inr h), g3⟩)
    · refine zw.f (nI_nlt (show v ≤ 255 by omega) (by decide)) ?_
      have hle := soP_le J hBy (show v + 1 ≤ 256 by omega)
      rw [soP_succ, List.length_append, List.length_replicate] at hle
      unfold lX1_sort_59
      refine zw.loop (fun m2 y => ∃ i iv4, i + m2 = J.count (nI v) ∧ y = ((K, iv4, rv, lv), B, o, nI v, nI i) ∧ fQ (aRow o) iv2 iv4 ∧ cR iv4 o (soP J v ++ List.replicate i (nI v))) ?_ N (J.count (nI v)) _ (by omega) ⟨0, iv3, by omega, rfl, f3, by simpa using g3⟩
      rintro m2 ⟨S, x0, x1, x2, x3⟩ Kc2 ⟨i, iv4, hi, hy2, f4, g4⟩ ih2
      cases hy2
      dsimp only
      unfold fX1_sort_59
      refine zw.e (zgr_at u1 u7.1) ?_
      refine zw.e (zil_v (x := nI (J.count (nI v))) u7.2 rfl (by omega) (by decide) (by rw [f4 _ _ (by omega)]; exact g2 v (by omega))) ?_
      by_cases hm2 : m2 = 0
      · have : i = J.count (nI v) := by omega
        subst this
        refine zw.t (Int32.le_refl _) ?_
        exact ih (m - 1) _ (by omega) ⟨v + 1, iv4, by omega, by rw [nI_1 v], f4, by rw [soP_succ]; exact g4⟩
      · refine zw.f (nI_ge (show i < J.count (nI v) by omega) (by omega)) ?_
        refine zw.e (zrc_at hr.1) ?_
        have hl : (soP J v ++ List.replicate i (nI v)).length = (soP J v).length + i := by rw [List.length_append, List.length_replicate]
        refine zw.c2 (c_put hr g4 (by rw [hl]; omega) (by decide)) ?_
        rintro r S ⟨p1, -⟩
        obtain ⟨-, iv5, rfl, f5, g5⟩ := p1 (by rw [hl]; omega)
        refine ih2 (m2 - 1) _ (by omega) ⟨i + 1, iv5, by omega, by rw [nI_1 i], f4.tr f5, ?_⟩
        rw [List.replicate_succ', ← List.append_assoc]
        exact g5
  · refine zw.f (nI_ge (show k < J.length by omega) (by omega)) ?_
    obtain ⟨u, hu, hue⟩ := hBy _ (getD_mem (d := 0) (show k < J.length by omega))
    refine zw.e (zgr_at u1 u7.1) ?_
    refine zw.e (zgr_at hr.1 hr.2.1) ?_
    refine zw.e (zib_v (x := nI u) hr.2.2 rfl (by omega) (by decide) hJ2.1 (by omega) (by omega) (by rw [hJ2.at (by omega)]; exact hue)) ?_
    refine zw.e (zil_v u7.2 (byte_id hu) hu (by decide) (g2 u hu)) ?_
    refine zw.e (zis_v u7.2 (byte_id hu) hu (by decide)) ?_
    refine ih (m - 1) _ (by omega) ⟨k + 1, _, by omega, by rw [nI_1 k], f2.put rfl _ _, fun v hv => ?_⟩
    rw [take_snoc (show k < J.length by omega), List.count_append, hue]
    by_cases e : v = u
    · rw [e, zu_s, nI_1]
      congr 1
      simp
    · have hne : ¬ nI u = nI v := fun q => e ((nI_eq (by omega) (by omega)).mp q).symm
      rw [zu_o (by omega), g2 v hv]
      congr 1
      simp [List.count_singleton, hne]
theorem c_sign (hr : cRow K rv o 200) (hJ : cR iv o J) (h8 : J.length ≤ 200) (hN : 300 < N) : zw (fX1_sign N (K, iv, rv, lv) o) (fun q => ∃ iv', q = (K, iv', rv, lv) ∧ fQ (aRow o) iv iv' ∧ cR iv' o (tSign J)) := by
  unfold fX1_sign fX1_sign_0 lX1_sign_5
  refine zw.loop (fun m y => ∃ k, k + m = J.length ∧ y = ((K, iv, rv, lv), o, tHash (J.take k), nI k)) ?_ N J.length _ (by omega) ⟨0, by omega, rfl⟩
  rintro m ⟨S, x0, x1, x2⟩ Kc ⟨k, hk, hy⟩ ih
  cases hy
  dsimp only
  unfold fX1_sign_5
  refine zw.e (zgi_v hr.1 hJ.1) ?_
  by_cases hm : m = 0
  · have : k = J.length := by omega
    subst this
    rw [List.take_length]
    refine zw.t (Int32.le_refl _) ?_
    refine zw.e (zpz_0 hr.1) ?_
    clear ih
    unfold lX1_sign_39
    refine zw.loop (fun m y => ∃ k iv1, k + m = 4 ∧ y = ((K, iv1, rv, lv), o, tHash J, nI 24 - nI (8 * k)) ∧ fQ (aRow o) iv iv1 ∧ cR iv1 o ((tSign J).take k)) ?_ N 4 _ (by omega) ⟨0, _, by omega, rfl, fQ.rf.put (Or.inl rfl) _ _, zu_s, aH.nil⟩
    rintro m ⟨S, x0, x1, x2⟩ Kc ⟨k, iv1, hk, hy, f1, g1⟩ ih
    cases hy
    dsimp only
    unfold fX1_sign_39
    by_cases hm : m = 0
    · have : k = 4 := by omega
      subst this
      exact zw.t (by decide) (zw.s ⟨iv1, rfl, f1, g1⟩)
    · have hk4 : k < 4 := by omega
      have e24 : nI 24 - nI (8 * k) = nI (24 - 8 * k) := nI_sub (by omega)
      rw [e24]
      refine zw.f (nI_pos (by omega)) ?_
      refine zw.e (zrc_at hr.1) ?_
      have hkl : k < (tSign J).length := by show k < 4; omega
      have hl : ((tSign J).take k).length = k := by rw [List.length_take]; omega
      refine zw.c2 (c_put hr g1 (by rw [hl]; omega) (by decide)) ?_
      rintro r S ⟨p1, -⟩
      obtain ⟨-, iv5, rfl, f5, g5⟩ := p1 (by rw [hl]; omega)
      have hval : zush (tHash J) (nI (24 - 8 * k)) &&& 255 = (tSign J).getD k 0 := by
        match k, hk4 with
        | 0, _ => rfl
        | 1, _ => rfl
        | 2, _ => rfl
        | 3, _ => rfl
      refine ih (m - 1) _ (by omega) ⟨k + 1, iv5, by omega, ?_, f1.tr f5, by rw [take_snoc hkl, ← hval]; exact g5⟩
      have : nI (24 - 8 * k) + (-8 : Int32) = nI 24 - nI (8 * (k + 1)) := by
        match k, hk4 with
        | 0, _ => rfl
        | 1, _ => rfl
        | 2, _ => rfl
        | 3, _ => rfl
      rw [this]
  · refine zw.f (nI_ge (show k < J.length by omega) (by omega)) ?_
    refine zw.e (zgr_at hr.1 hr.2.1) ?_
    refine zw.e (zib_v hr.2.2 rfl (by omega) (by decide) hJ.1 (by omega) (by omega) (hJ.at (by omega))) ?_
    refine ih (m - 1) _ (by omega) ⟨k + 1, by omega, ?_⟩
    rw [nI_1 k, take_snoc (show k < J.length by omega)]
    simp only [tHash, List.foldl_append, List.foldl_cons, List.foldl_nil]
end C4
