/-! the class: makers, count -/
section C11
variable {N b : Nat} {K : Nat → Option (Nat × Nat)} {iv : Nat → Nat → Int32} {rv : Nat → Nat → Option Nat} {lv : Nat → Nat → Int64} {S : zS}
variable {mb : Nat → Option Nat} {mf : Nat → Nat} {fg : Nat → Bool} {tp : List Int32} {nt : Nat} {tx : Nat → List Int32} {lk : Nat → Bool}
/-- the class's makers -/
def cM (b : Nat) (iv : Nat → Nat → Int32) (mb : Nat → Option Nat) (mf : Nat → Nat) (fg : Nat → Bool) : Prop :=
  (∀ m, m < 30 → iv (b + 181) m = byV (mb m) ∧ iv (b + 182) m = nI (mf m)) ∧ isS (iv (b + 180) 2) (fun m => decide (m < 30) && fg m)
abbrev aMak (b : Nat) : Nat → Prop := fun c => b + 180 ≤ c ∧ c < b + 183
theorem cM.fr {iv' : Nat → Nat → Int32} {A : Nat → Prop} (h : cM b iv mb mf fg) (hf : fQ A iv iv') (hA : ∀ a, b + 180 ≤ a → a < b + 183 → ¬ A a) : cM b iv' mb mf fg :=
  ⟨fun m hm => by rw [hf _ _ (hA _ (by omega) (by omega)), hf _ _ (hA _ (by omega) (by omega))]; exact h.1 m hm, by rw [hf _ _ (hA _ (by omega) (by omega))]; exact h.2⟩
theorem cTop.r_mak (hC : cTop b K rv) : rv b 7 = some (b + 180) := hC.2.2.2.2.2.2.2.2
theorem c_maker {x y t : Int32} (hC : cTop b K rv) (hX : cTex b K rv) (hL : cMak b K rv) (hT : cT b iv tp nt tx lk) (hdT : dT tp nt tx lk) (hM : cM b iv mb mf fg) :
    zw (fX7_maker N (K, iv, rv, lv) b x y t) (fun q => ∃ iv', q.2 = (K, iv', rv, lv) ∧ fQ (aMak b) iv iv' ∧ (mkOk nt x y t → q.1 = 1 ∧ cM b iv' (upB mb x.toNatClampNeg (mkBy y)) (upB mf x.toNatClampNeg (mkFr y t)) fg) ∧ (¬ mkOk nt x y t → q.1 = -1 ∧ cM b iv' mb mf fg)) := by
  have hnt := hdT.2.1
  obtain ⟨l1, ⟨l2, l3⟩, l4, l5⟩ := hL
  unfold fX7_maker fX7_maker_0 fX7_maker_27
  have bad : ¬ mkOk nt x y t → zw (some ((-1 : Int32), ((K, iv, rv, lv) : zS))) (fun q => ∃ iv', q.2 = (K, iv', rv, lv) ∧ fQ (aMak b) iv iv' ∧ (mkOk nt x y t → q.1 = 1 ∧ cM b iv' (upB mb x.toNatClampNeg (mkBy y)) (upB mf x.toNatClampNeg (mkFr y t)) fg) ∧ (¬ mkOk nt x y t → q.1 = -1 ∧ cM b iv' mb mf fg)) := fun h => zw.s ⟨iv, rfl, fQ.rf, fun q => absurd q h, fun _ => ⟨rfl, hM⟩⟩
  refine zw.e2 c_isMaker ?_
  by_cases h1 : inR 30 x
  · rw [if_pos h1]
    refine zw.f (by decide) ?_
    obtain ⟨m, hm, rfl⟩ := h1.at (by decide)
    have hc : (nI m).toNatClampNeg = m := nI_clamp (by omega)
    have main : mkOk nt (nI m) y t → y = byV (mkBy y) → (if y = -1 then (0 : Int32) else t) = nI (mkFr y t) → zw (fX7_maker_29 N (K, iv, rv, lv) b (nI m) y t) (fun q => ∃ iv', q.2 = (K, iv', rv, lv) ∧ fQ (aMak b) iv iv' ∧ (mkOk nt (nI m) y t → q.1 = 1 ∧ cM b iv' (upB mb (nI m).toNatClampNeg (mkBy y)) (upB mf (nI m).toNatClampNeg (mkFr y t)) fg) ∧ (¬ mkOk nt (nI m) y t → q.1 = -1 ∧ cM b iv' mb mf fg)) := by
      intro hok e1 e2
      unfold fX7_maker_29 fX7_maker_57
      refine zw.e (zgr_at hC.1 hC.r_mak) ?_
      refine zw.e (zgr_at l1 l2) ?_
      refine zw.e (zis_v l3 rfl hm (by decide)) ?_
      refine zw.e (zgr_at hC.1 hC.r_mak) ?_
      refine zw.e (zgr_at l1 l4) ?_
      have fin : ∀ vt : Int32, vt = nI (mkFr y t) → zw ((zis (K, zu iv (b + 181) m y, rv, lv) (b + 182) (nI m) vt).bind fun S1 => some ((1 : Int32), S1)) (fun q => ∃ iv', q.2 = (K, iv', rv, lv) ∧ fQ (aMak b) iv iv' ∧ (mkOk nt (nI m) y t → q.1 = 1 ∧ cM b iv' (upB mb (nI m).toNatClampNeg (mkBy y)) (upB mf (nI m).toNatClampNeg (mkFr y t)) fg) ∧ (¬ mkOk nt (nI m) y t → q.1 = -1 ∧ cM b iv' mb mf fg)) := by
        intro vt ev
        refine zw.e (zis_v l5 rfl hm (by decide)) ?_
        refine zw.s ⟨_, rfl, (fQ.rf.put ⟨by omega, by omega⟩ _ _).put ⟨by omega, by omega⟩ _ _, fun _ => ⟨rfl, fun j hj => ?_, ?_⟩, fun q => absurd hok q⟩
        · rw [hc]
          by_cases e : j = m
          · subst e
            rw [upB_eq, upB_eq]
            exact ⟨by rw [zu_o (by omega), zu_s]; exact e1, by rw [zu_s]; exact ev⟩
          · rw [upB_ne e, upB_ne e]
            exact ⟨by rw [zu_o (by omega), zu_o (by omega)]; exact (hM.1 j hj).1, by rw [zu_o (by omega), zu_o (by omega)]; exact (hM.1 j hj).2⟩
        · rw [zu_o (by omega), zu_o (by omega)]
          exact hM.2
      refine zw.it (fun c => fin _ (by rw [if_pos c] at e2; exact e2)) (fun c => fin _ (by rw [if_neg c] at e2; exact e2))
    by_cases hy : y = -1
    · refine zw.t hy (main ⟨h1, Or.inl hy⟩ ?_ ?_)
      · simp [mkBy, hy, byV]
      · simp [mkFr, hy]; rfl
    · refine zw.f hy ?_
      refine zw.e2 c_isMaker ?_
      by_cases h2 : inR 30 y
      · rw [if_pos h2]
        refine zw.f (by decide) ?_
        refine zw.e (zrc_at hC.1) ?_
        refine zw.e2 (c_isText hC hX hT) ?_
        by_cases h3 : inR nt t
        · rw [if_pos h3]
          obtain ⟨ky, hky, eky⟩ := h2.at (by decide)
          obtain ⟨kt, hkt, ekt⟩ := h3.at (by omega)
          refine zw.f (by decide) (main ⟨h1, Or.inr ⟨h2, h3⟩⟩ ?_ ?_)
          · simp only [mkBy, if_neg hy, byV]
            rw [eky, nI_clamp (by omega)]
          · simp only [mkFr, if_neg hy]
            rw [ekt, nI_clamp (by omega)]
        · rw [if_neg h3]
          exact zw.t rfl (bad fun q => by
            rcases q.2 with q | q
            · exact hy q
            · exact h3 q.2)
      · rw [if_neg h2]
        exact zw.t rfl (bad fun q => by
          rcases q.2 with q | q
          · exact hy q
          · exact h2 q.1)
  · rw [if_neg h1]
    exact zw.t rfl (bad fun q => h1 q.1)
theorem byV_1 {o : Option Nat} (h : ∀ k, o = some k → k < 30) : byV o = -1 ↔ o = none := by
  cases o with
  | none => exact ⟨fun _ => rfl, fun _ => rfl⟩
  | some k => exact ⟨fun q => absurd q (nI_n1 (by have := h k rfl; omega)), fun q => by cases q⟩
/-- a maker and all on its way -/
theorem c_way {m : Nat} (hL : cMak b K rv) (hM : cM b iv mb mf fg) (hd : dM mb mf) (hm : m < 30) (hN : 100 < N) : zw (fX2_way N (K, iv, rv, lv) (b + 180) (nI m)) (fun q => q.2 = (K, iv, rv, lv) ∧ isS q.1 (wyS mb m (wyL mb m))) := by
  obtain ⟨l1, ⟨l2, l3⟩, l4, l5⟩ := hL
  unfold fX2_way fX2_way_0 lX2_way_7
  refine zw.loop (fun t y => ∃ k z, k + t = 30 ∧ y = ((K, iv, rv, lv), b + 180, z, byV (orb mb m k), nI k) ∧ isS z (wyS mb m k) ∧ (∀ j, j < k → orb mb m j ≠ none) ∧ ∀ i j, i < j → j < k → orb mb m i ≠ orb mb m j) ?_ N 30 _ (by omega) ⟨0, 0, by omega, rfl, isS.zero fun i hi => rfl, fun j hj => by omega, fun i j h1 h2 => by omega⟩
  rintro t ⟨S, x0, x1, x2, x3⟩ Kc ⟨k, z, hk, hy, g1, g2, g3⟩ ih
  cases hy
  dsimp only
  unfold fX2_way_7 fX2_way_46 zlet
  have done : wyP mb m k → zw (some (x1, ((K, iv, rv, lv) : zS))) (fun q => q.2 = (K, iv, rv, lv) ∧ isS q.1 (wyS mb m (wyL mb m))) := fun q => zw.s ⟨rfl, by rw [← q.one (wyL_P hd hm)]; exact g1⟩
  have hlt := orb_lt hd hm
  by_cases ht : t = 0
  · have : k = 30 := by omega
    subst this
    refine zw.t (by decide) (done ⟨by decide, g2, g3, ?_⟩)
    refine Classical.byContradiction fun q => ?_
    have h1 : ∀ k, k < 31 → orb mb m k ≠ none := fun k hk e => by
      by_cases e2 : k = 30
      · exact q (Or.inl (by rw [← e2]; exact e))
      · exact g2 k (by omega) e
    have h2 : ∀ i j, i < j → j < 31 → orb mb m i ≠ orb mb m j := fun i j hij hj e => by
      by_cases e2 : j = 30
      · exact q (Or.inr ⟨i, by omega, by rw [← e2]; exact e.symm⟩)
      · exact g3 i j hij (by omega) e
    have := wy_holes hd hm h1 h2
    omega
  · refine zw.f (nI_ge (show k < 30 by omega) (by decide)) ?_
    cases ho : orb mb m k with
    | none =>
      refine zw.t rfl (done ⟨?_, g2, g3, Or.inl ho⟩)
      rcases Nat.eq_zero_or_pos k with e | e
      · subst e; cases ho
      · exact e
    | some c =>
      have hc := hlt k c ho
      refine zw.f (fun q => nI_n1 (show c < 2 ^ 31 by omega) q) ?_
      by_cases hs : wyS mb m k c = true
      · refine zw.f (fun q => by rw [show byV (some c) = nI c from rfl, ush_0 (by omega), g1 c (by omega), hs] at q; cases q) (done ⟨?_, g2, g3, Or.inr ?_⟩)
        · rcases Nat.eq_zero_or_pos k with e | e
          · subst e; cases hs
          · exact e
        · obtain ⟨j, hj, e⟩ := wyS_iff.mp hs
          exact ⟨j, hj, by rw [ho, e]⟩
      · refine zw.t ((ush_0 (by omega)).mpr (by rw [g1 c (by omega)]; exact Bool.eq_false_iff.mpr hs)) ?_
        refine zw.e (zgr_at l1 l2) ?_
        refine zw.e (zil_v l3 rfl hc (by decide) (hM.1 c hc).1) ?_
        refine ih (t - 1) _ (by omega) ⟨k + 1, _, by omega, by rw [nI_1 k, orb_some ho], fun i hi => ?_, fun j hj => ?_, fun i j hij hj => ?_⟩
        · rw [show byV (some c) = nI c from rfl, bt_set (by omega) hi, g1 i hi, wyS_s, ho]
          congr 1
          by_cases e : i = c
          · rw [e]; simp
          · have e2 : ¬ c = i := fun q => e q.symm
            simp [e, e2]
        · by_cases e : j = k
          · rw [e, ho]; exact fun q => by cases q
          · exact g2 j (by omega)
        · by_cases e : j = k
          · subst e
            rw [ho]
            intro q
            exact hs (wyS_iff.mpr ⟨i, hij, q⟩)
          · exact g3 i j hij (by omega)
/-- where one is after so many goes -/
theorem c_after {m g : Nat} (hL : cMak b K rv) (hM : cM b iv mb mf fg) (hd : dM mb mf) (hm : m < 30) (hg : g ≤ 30) (hN : 100 < N) : zw (fX2_after N (K, iv, rv, lv) (b + 180) (nI m) (nI g)) (fun q => q = (byV (orb mb m g), (K, iv, rv, lv))) := by
  obtain ⟨l1, ⟨l2, l3⟩, l4, l5⟩ := hL
  unfold fX2_after fX2_after_0 lX2_after_5
  refine zw.loop (fun t y => ∃ k, k + t = g ∧ y = ((K, iv, rv, lv), b + 180, nI g, byV (orb mb m k), nI k)) ?_ N g _ (by omega) ⟨0, by omega, rfl⟩
  rintro t ⟨S, x0, x1, x2, x3⟩ Kc ⟨k, hk, hy⟩ ih
  cases hy
  dsimp only
  unfold fX2_after_5 fX2_after_29
  by_cases ht : t = 0
  · have : k = g := by omega
    subst this
    exact zw.t (Int32.le_refl _) (zw.s rfl)
  · refine zw.f (nI_ge (show k < g by omega) (by omega)) ?_
    cases ho : orb mb m k with
    | none =>
      refine zw.t rfl (zw.s ?_)
      have := orb_none ho (g - k)
      rw [show k + (g - k) = g by omega] at this
      rw [this]
    | some c =>
      have hc := orb_lt hd hm k c ho
      refine zw.f (fun q => nI_n1 (show c < 2 ^ 31 by omega) q) ?_
      refine zw.e (zgr_at l1 l2) ?_
      refine zw.e (zil_v l3 rfl hc (by decide) (hM.1 c hc).1) ?_
      exact ih (t - 1) _ (by omega) ⟨k + 1, by omega, by rw [nI_1 k, orb_some ho]⟩
/-- as many bits as makers on the way -/
theorem way_ct {m L : Nat} (hd : dM mb mf) (hm : m < 30) (h1 : ∀ k, k < L → orb mb m k ≠ none) (h2 : ∀ i j, i < j → j < L → orb mb m i ≠ orb mb m j) : fb_ct (wyS mb m L) 32 = L := by
  induction L with
  | zero => exact fb_ct_zero.mpr fun k _ => rfl
  | succ L ih =>
    have ih := ih (fun k hk => h1 k (by omega)) (fun i j hij hj => h2 i j hij (by omega))
    obtain ⟨c, hc⟩ := Option.ne_none_iff_exists'.mp (h1 L (by omega))
    have hc30 := orb_lt hd hm L c hc
    have hno : wyS mb m L c = false := by
      rw [Bool.eq_false_iff]
      intro q
      obtain ⟨j, hj, e⟩ := wyS_iff.mp q
      exact h2 j L hj (by omega) (by rw [e, hc])
    have h3 := fb_ct_upd (wyS mb m L) true (i := c) (n := 32) (by omega)
    rw [hno] at h3
    have h4 : fb_ct (wyS mb m (L + 1)) 32 = fb_ct (fun k => if k = c then true else wyS mb m L k) 32 := fb_ct_cong fun k _ => by
      rw [wyS_s, hc]
      by_cases e : k = c
      · rw [if_pos e, e]; simp
      · have e2 : ¬ c = k := fun q => e q.symm
        rw [if_neg e]; simp [e2]
    rw [h4]
    change _ + 0 = _ + 1 at h3
    omega
theorem way_bC {m : Nat} {x : Int32} (hd : dM mb mf) (hm : m < 30) (hx : isS x (wyS mb m (wyL mb m))) : bC x = wyL mb m := by
  rw [hx.bC]
  exact way_ct hd hm (wyL_P hd hm).2.1 (wyL_P hd hm).2.2.1
theorem c_ringStart {m : Nat} (hL : cMak b K rv) (hM : cM b iv mb mf fg) (hd : dM mb mf) (hm : m < 30) (hN : 100 < N) : zw (fX2_ringStart N (K, iv, rv, lv) (b + 180) (nI m)) (fun q => q = (byV (orb mb m (wyL mb m)), (K, iv, rv, lv))) := by
  unfold fX2_ringStart fX2_ringStart_0
  refine zw.e (zrc_at hL.1) ?_
  refine zw.c2 (c_way hL hM hd hm hN) ?_
  rintro v S ⟨rfl, hv⟩
  refine zw.e2 j_bitCount ?_
  rw [way_bC hd hm hv]
  refine zw.e (zrc_at hL.1) ?_
  refine zw.c2 (c_after hL hM hd hm (wyL_30 hd hm) hN) ?_
  intro v S e
  cases e
  exact zw.s rfl
theorem c_down {x : Int32} (hC : cTop b K rv) (hL : cMak b K rv) (hM : cM b iv mb mf fg) (hd : dM mb mf) (hN : 100 < N) : zw (fX7_down N (K, iv, rv, lv) b x) (fun q => q = (if inR 30 x then spDown mb x.toNatClampNeg else -1, (K, iv, rv, lv))) := by
  unfold fX7_down fX7_down_0 fX7_down_39
  refine zw.e2 c_isMaker ?_
  by_cases h1 : inR 30 x
  · rw [if_pos h1, if_pos h1]
    refine zw.f (by decide) ?_
    obtain ⟨m, hm, rfl⟩ := h1.at (by decide)
    rw [nI_clamp (show m < 2 ^ 31 by omega)]
    refine zw.e (zgr_at hC.1 hC.r_mak) ?_
    refine zw.e (zrc_at hL.1) ?_
    refine zw.c2 (c_ringStart hL hM hd hm hN) ?_
    intro v S e
    cases e
    have hb := byV_1 (o := orb mb m (wyL mb m)) (fun k e => orb_lt hd hm _ k e)
    by_cases e : orb mb m (wyL mb m) = none
    · refine zw.t (hb.mpr e) ?_
      refine zw.e (zgr_at hC.1 hC.r_mak) ?_
      refine zw.e (zrc_at hL.1) ?_
      refine zw.c2 (c_way hL hM hd hm hN) ?_
      rintro v S ⟨rfl, hv⟩
      refine zw.e2 j_bitCount ?_
      rw [way_bC hd hm hv]
      refine zw.s ?_
      unfold spDown
      rw [if_pos e, show (1 : Int32) = nI 1 from rfl, nI_sub (wyL_P hd hm).1]
    · refine zw.f (fun q => e (hb.mp q)) (zw.s ?_)
      unfold spDown
      rw [if_neg e]
  · rw [if_neg h1, if_neg h1]
    exact zw.t rfl (zw.s rfl)
theorem c_ring {x y : Int32} (hC : cTop b K rv) (hL : cMak b K rv) (hM : cM b iv mb mf fg) (hd : dM mb mf) (hN : 100 < N) : zw (fX7_ring N (K, iv, rv, lv) b x y) (fun q => q.1 = (if inR 30 x then spRing mb x.toNatClampNeg y else -1) ∧ q.2 = (K, iv, rv, lv)) := by
  unfold fX7_ring fX7_ring_0 fX7_ring_57 fX7_ring_58
  refine zw.e2 c_isMaker ?_
  by_cases h1 : inR 30 x
  · rw [if_pos h1, if_pos h1]
    refine zw.f (by decide) ?_
    obtain ⟨m, hm, rfl⟩ := h1.at (by decide)
    rw [nI_clamp (show m < 2 ^ 31 by omega)]
    refine zw.e (zgr_at hC.1 hC.r_mak) ?_
    refine zw.e (zrc_at hL.1) ?_
    refine zw.c2 (c_ringStart hL hM hd hm hN) ?_
    intro v S e
    cases e
    unfold spRing
    cases ho : orb mb m (wyL mb m) with
    | none => exact zw.t rfl (zw.s ⟨rfl, rfl⟩)
    | some st =>
      have hst := orb_lt hd hm _ st ho
      refine zw.f (fun q => nI_n1 (show st < 2 ^ 31 by omega) q) ?_
      dsimp only
      by_cases hy : y < 0
      · refine zw.t hy (zw.s ⟨?_, rfl⟩)
        rw [if_neg (show ¬ (¬ y < 0 ∧ y.toNatClampNeg < wyL mb st) from fun q => q.1 hy)]
      · refine zw.f hy ?_
        obtain ⟨i, hi, rfl⟩ := nI_ge0 hy
        rw [nI_clamp hi]
        refine zw.e (zgr_at hC.1 hC.r_mak) ?_
        refine zw.e (zrc_at hL.1) ?_
        rw [show byV (some st) = nI st from rfl]
        refine zw.c2 (c_way hL hM hd hst hN) ?_
        rintro v S ⟨rfl, hv⟩
        refine zw.e2 j_bitCount ?_
        rw [way_bC hd hst hv]
        have h30 := wyL_30 hd hst
        by_cases hlt : i < wyL mb st
        · refine zw.f (nI_ge hlt (by omega)) ?_
          refine zw.e (zgr_at hC.1 hC.r_mak) ?_
          refine zw.e (zrc_at hL.1) ?_
          refine zw.c2 (c_after hL hM hd hst (show i ≤ 30 by omega) hN) ?_
          intro v S e
          cases e
          refine zw.s ⟨?_, rfl⟩
          rw [if_pos (show ¬ nI i < 0 ∧ i < wyL mb st from ⟨hy, hlt⟩)]
        · refine zw.t (nI_le (show wyL mb st ≤ i by omega) hi) (zw.s ⟨?_, rfl⟩)
          rw [if_neg (show ¬ (¬ nI i < 0 ∧ i < wyL mb st) from fun q => hlt q.2)]
  · rw [if_neg h1, if_neg h1]
    exact zw.t rfl (zw.s ⟨rfl, rfl⟩)
/-- the texts on the way -/
theorem c_textsOn {m : Nat} {x : Int32} (hL : cMak b K rv) (hM : cM b iv mb mf fg) (hd : dM mb mf) (hx : isS x (wyS mb m (wyL mb m))) (hN : 100 < N) : zw (fX2_textsOn N (K, iv, rv, lv) (b + 180) x) (fun q => q.2 = (K, iv, rv, lv) ∧ isS q.1 (ndT mb mf m)) := by
  obtain ⟨l1, ⟨l2, l3⟩, l4, l5⟩ := hL
  unfold fX2_textsOn fX2_textsOn_0 lX2_textsOn_4
  refine zw.loop (fun t y => ∃ k z, k + t = 30 ∧ y = ((K, iv, rv, lv), b + 180, x, z, nI k) ∧ isS z (fun t => (List.range k).any fun k => wyS mb m (wyL mb m) k && ((mb k).isSome && decide (mf k = t)))) ?_ N 30 _ (by omega) ⟨0, 0, by omega, rfl, isS.zero fun i hi => rfl⟩
  rintro t ⟨S, x0, x1, x2, x3⟩ Kc ⟨k, z, hk, hy, g⟩ ih
  cases hy
  dsimp only
  unfold fX2_textsOn_4 fX2_textsOn_39 zlet
  by_cases ht : t = 0
  · have : k = 30 := by omega
    subst this
    exact zw.t (by decide) (zw.s ⟨rfl, g⟩)
  · refine zw.f (nI_ge (show k < 30 by omega) (by decide)) ?_
    have skip : (wyS mb m (wyL mb m) k && (mb k).isSome) = false → zw (Kc ((K, iv, rv, lv), b + 180, x, x2, nI k + 1)) (fun q => q.2 = (K, iv, rv, lv) ∧ isS q.1 (ndT mb mf m)) := fun q => ih (t - 1) _ (by omega) ⟨k + 1, x2, by omega, by rw [nI_1 k], fun i hi => by
      dsimp only
      rw [g i hi, List.range_succ, List.any_append]
      simp only [List.any_cons, List.any_nil, Bool.or_false]
      rw [← Bool.and_assoc, q]
      simp⟩
    have hk30 : k < 30 := by omega
    by_cases hw : wyS mb m (wyL mb m) k = true
    · refine zw.f (fun q => by rw [ush_0 (by omega), hx k (by omega), hw] at q; cases q) ?_
      refine zw.e (zgr_at l1 l2) ?_
      refine zw.e (zil_v l3 rfl hk30 (by decide) (hM.1 k hk30).1) ?_
      have hb := byV_1 (o := mb k) (hd k hk30).1
      by_cases e : mb k = none
      · exact zw.t (hb.mpr e) (skip (by rw [e]; simp))
      · refine zw.f (fun q => e (hb.mp q)) ?_
        refine zw.e (zgr_at l1 l4) ?_
        refine zw.e (zil_v l5 rfl hk30 (by decide) (hM.1 k hk30).2) ?_
        have hf := (hd k hk30).2
        refine ih (t - 1) _ (by omega) ⟨k + 1, _, by omega, by rw [nI_1 k], fun i hi => ?_⟩
        dsimp only
        rw [bt_set (by omega) hi, g i hi, List.range_succ, List.any_append]
        simp only [List.any_cons, List.any_nil, Bool.or_false]
        rw [hw, Option.isSome_iff_ne_none.mpr e]
        congr 1
        by_cases e2 : i = mf k
        · rw [e2]; simp
        · have e3 : ¬ mf k = i := fun q => e2 q.symm
          simp [e2, e3]
    · refine zw.t ((ush_0 (by omega)).mpr (by rw [hx k (by omega)]; exact Bool.eq_false_iff.mpr hw)) (skip (by rw [Bool.eq_false_iff.mpr hw]; rfl))
theorem ndT_20 {m t : Nat} (hd : dM mb mf) (ht : 20 ≤ t) : ndT mb mf m t = false := by
  unfold ndT
  rw [List.any_eq_false]
  intro k hk
  rw [List.mem_range] at hk
  have := (hd k hk).2
  have e : ¬ mf k = t := by omega
  simp [e]
theorem ct_20 {P : Nat → Bool} (h : ∀ t, 20 ≤ t → P t = false) : fb_ct P 32 = fb_ct P 20 := by
  have h1 := fb_ct_split P 20 12
  have h2 : fb_ct (fun k => P (20 + k)) 12 = 0 := fb_ct_zero.mpr fun k _ => h _ (by omega)
  rw [show (20 : Nat) + 12 = 32 from rfl] at h1
  rw [h1, h2, Nat.add_zero]
theorem c_needs {x y : Int32} (hC : cTop b K rv) (hX : cTex b K rv) (hL : cMak b K rv) (hT : cT b iv tp nt tx lk) (hM : cM b iv mb mf fg) (hd : dM mb mf) (hN : 100 < N) : zw (fX7_needs N (K, iv, rv, lv) b x y) (fun q => q.1 = (if inR 30 x ∧ inR 2 y then spNeeds mb mf lk x.toNatClampNeg y else -1) ∧ q.2 = (K, iv, rv, lv)) := by
  unfold fX7_needs fX7_needs_0 fX7_needs_14 fX7_needs_49
  refine zw.e2 c_isMaker ?_
  by_cases h1 : inR 30 x
  · rw [if_pos h1]
    refine zw.f (by decide) ?_
    refine zw.e2 c_isBit ?_
    by_cases h2 : inR 2 y
    · rw [if_pos h2, if_pos (show inR 30 x ∧ inR 2 y from ⟨h1, h2⟩)]
      refine zw.f (by decide) ?_
      obtain ⟨m, hm, rfl⟩ := h1.at (by decide)
      rw [nI_clamp (show m < 2 ^ 31 by omega)]
      refine zw.e (zgr_at hC.1 hC.r_mak) ?_
      refine zw.e (zgr_at hC.1 hC.r_mak) ?_
      refine zw.e (zrc_at hL.1) ?_
      refine zw.c2 (c_way hL hM hd hm hN) ?_
      rintro v S ⟨rfl, hv⟩
      refine zw.e (zrc_at hL.1) ?_
      refine zw.c2 (c_textsOn hL hM hd hv hN) ?_
      rintro u S ⟨rfl, hu⟩
      unfold spNeeds
      refine zw.it (fun c => ?_) (fun c => ?_)
      · refine zw.e2 j_bitCount ?_
        refine zw.s ⟨?_, rfl⟩
        dsimp only
        rw [isS.bC hu, ct_20 (fun t ht => ndT_20 hd ht)]
        congr 1
        exact fb_ct_cong fun k _ => by rw [decide_eq_true c]; simp
      · refine zw.e (zgr_at hC.1 hC.2.1) ?_
        refine zw.e (zgi_at hX.1) ?_
        refine zw.e2 j_bitCount ?_
        refine zw.s ⟨?_, rfl⟩
        dsimp only
        have hul : isS (u &&& iv (b + 1) 3) (fun t => ndT mb mf m t && lk t) := fun i hi => by
          rw [b_and, hT.2.2.1 i hi, show bt u i = ndT mb mf m i from hu i hi]
        rw [hul.bC, ct_20 (fun t ht => by rw [ndT_20 hd ht]; rfl)]
        congr 1
        exact fb_ct_cong fun k _ => by rw [decide_eq_false c]; simp
    · rw [if_neg h2, if_neg (show ¬ (inR 30 x ∧ inR 2 y) from fun q => h2 q.2)]
      exact zw.t rfl (zw.s ⟨rfl, rfl⟩)
  · rw [if_neg h1, if_neg (show ¬ (inR 30 x ∧ inR 2 y) from fun q => h1 q.1)]
    exact zw.t rfl (zw.s ⟨rfl, rfl⟩)
end C11
