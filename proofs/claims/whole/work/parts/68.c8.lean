/-! the class: stable, breaks, fix -/
/-- the search by size, then by number -/
def srI (D : Nat → Prop) (z k : Nat) : Prop := ∀ j, j < 256 → D j → z < pcn 32 j ∨ (z = pcn 32 j ∧ k ≤ j)
theorem pcn_8 {j : Nat} (hj : j < 256) : pcn 32 j ≤ 8 := by
  unfold pcn
  have h1 := fb_ct_split j.testBit 8 24
  have h2 : fb_ct (fun k => j.testBit (8 + k)) 24 = 0 := fb_ct_zero.mpr fun k _ => Nat.testBit_lt_two_pow (Nat.lt_of_lt_of_le (show j < 2 ^ 8 from hj) (Nat.pow_le_pow_right (by decide) (by omega)))
  rw [show (8 : Nat) + 24 = 32 from rfl] at h1
  rw [h1, h2]
  exact fb_ct_le _ 8
theorem srI.next {D : Nat → Prop} {z k : Nat} (h : srI D z k) (hn : ¬ (D k ∧ pcn 32 k = z)) : srI D z (k + 1) := fun j h1 h2 => by
  rcases h j h1 h2 with q | ⟨q1, q2⟩
  · exact Or.inl q
  · refine Or.inr ⟨q1, ?_⟩
    by_cases e : j = k
    · subst e; exact absurd ⟨h2, q1.symm⟩ hn
    · omega
theorem srI.row {D : Nat → Prop} {z : Nat} (h : srI D z 256) (t : Nat) (ht : ∀ j, D j → t ≤ j) : srI D (z + 1) t := fun j h1 h2 => by
  rcases h j h1 h2 with q | ⟨q1, q2⟩
  · have := ht j h2; omega
  · omega
theorem srI.found {D : Nat → Prop} {z k : Nat} (h : srI D z k) (hk : k < 256) (hd : D k) (hz : pcn 32 k = z) : isLs D k := ⟨hk, hd, fun j h1 h2 => by rw [hz]; exact h j h1 h2⟩
theorem srI.fin {D : Nat → Prop} {t : Nat} (h : srI D 9 t) : ∀ j, j < 256 → ¬ D j := fun j h1 h2 => by
  have := pcn_8 h1
  rcases h j h1 h2 with q | q <;> omega
section C8
variable {N b B : Nat} {K : Nat → Option (Nat × Nat)} {iv : Nat → Nat → Int32} {rv : Nat → Nat → Option Nat} {lv : Nat → Nat → Int64} {S : zS}
variable {tp : List Int32} {nt : Nat} {tx : Nat → List Int32} {lk : Nat → Bool} {ns : Nat} {tl : Nat → Nat} {pa : Nat → Int32} {pb : Nat → Nat} {ins : Nat → List Nat} {h : Nat → Int32} {wd : Nat → Nat → Int32}
/-- make the second build anew, and hold it against the first -/
theorem c_redo {α : Type} {P : α → Prop} {s : Nat} {o1 : Option (List Int32)} {F : Int32 → zS → Option α} (hG : cG b K rv) (hA : cA b iv tp nt tx lk ns tl pa pb ins wd) (hs : s < ns) (h1 : cS (b + 63) iv s o1) (g1 : ∀ L, o1 = some L → L.length ≤ 200) (hV : cV (b + 116) iv tx lk ns tl pa pb ins h (usd ins s)) (hw : ∀ w, w < 8 → isB (h w)) (hN : 600 < N)
    (k : ∀ iv', fQ (aBld (b + 116)) iv iv' → cV (b + 116) iv' tx lk ns tl pa pb ins h (usd ins s) → zw (F (if o1 = thg tx lk tl pa pb ins h s then 1 else 0) (K, iv', rv, lv)) P) :
    zw ((zgr (K, iv, rv, lv) b 7 4).bind fun v4 => (zgr (K, iv, rv, lv) b 7 1).bind fun v5 => (zgr (K, iv, rv, lv) v5 4 5).bind fun v6 => (zil (K, iv, rv, lv) v6 (nI s)).bind fun v7 => (zrc (K, iv, rv, lv) v4 1).bind fun _ => (fX1_make N (K, iv, rv, lv) v4 v7).bind fun S9 => (zrc S9 b 7).bind fun _ => zb2 (fX7_sameThing N S9 b (nI s)) F) P := by
  have hn := hA.2.2.2.2.1.1
  have hok := hA.2.2.2.2.1.ok hA.2.2.2.1.2.1
  obtain ⟨hC, hX, hL, hWo, hB1, hB2⟩ := id hG
  refine zw.e (zgr_at hC.1 hC.2.2.2.2.2.1) ?_
  refine zw.e (zgr_at hC.1 hC.2.2.1) ?_
  refine zw.e (zgr_at hL.1 hL.r_used) ?_
  refine zw.e (zil_v hL.k_used rfl (by omega) (by decide) rfl) ?_
  refine zw.e (zrc_at hB2.1) ?_
  refine zw.c (c_make (by omega) hL hX hB2 hA.1 hA.2.2.2.1 hA.2.1 hA.2.2.2.2.1 hV.1 hw (hA.2.1.2.2.2.2.2.2.1 s hs) (usd_cl hok hs) (fun k h1 h2 h3 => hV.2 k h1 h2 h3) hN) ?_
  rintro S ⟨iv2, rfl, f2, g3⟩
  refine zw.e (zrc_at hC.1) ?_
  refine zw.c2 (c_sameThing hG (by omega) (h1.far f2 (fun a h3 h4 => by omega) (by omega)) (g3 s hs (hA.us hs)) g1 (fun L e => (cthg_good hA hw hs e).1) (by omega)) ?_
  intro r S e
  cases e
  exact k iv2 (f2.mo (fun a h => by omega)) ⟨fun w hw => by rw [f2 _ _ (by omega)]; exact hV.1 w hw, fun k h1 h2 _ => g3 k h1 h2⟩
theorem trn_trn {h : Nat → Int32} {w : Nat} {u v : Int32} : trn (trn h w u) w v = trn h w v := by
  funext j
  unfold trn
  by_cases e : j = w
  · rw [if_pos e, if_pos e]
  · rw [if_neg e, if_neg e, if_neg e]
theorem trn_self {h : Nat → Int32} {w : Nat} : trn h w (h w) = h := by
  funext j
  unfold trn
  by_cases e : j = w
  · rw [if_pos e, e]
  · rw [if_neg e]
theorem trn_B {h : Nat → Int32} {w v : Nat} (hh : ∀ w, w < 8 → isB (h w)) (hv : v < 256) : ∀ j, j < 8 → isB (trn h w (nI v) j) := fun j hj => by
  unfold trn
  split
  · exact ⟨v, hv, rfl⟩
  · exact hh j hj
theorem c_firstUnlike {r s w n : Nat} (hG : cG b K rv) (hA : cA b iv tp nt tx lk ns tl pa pb ins wd) (hr : r < 8) (hs : s < ns) (hw : w < 8) (hn2 : n ≤ 255) (hN : 600 < N) :
    zw (fX7_firstUnlike N (K, iv, rv, lv) b (nI r) (nI s) (nI w) (nI n)) (fun q => (∃ z, spBrk tx lk tl pa pb ins (wd r) s w n z ∧ q.1 = if z = -2 then -1 else z) ∧ ∃ iv', q.2 = (K, iv', rv, lv) ∧ fQ (aTwo b) iv iv') := by
  have hn := hA.2.2.2.2.1.1
  have hok := hA.2.2.2.2.1.ok hA.2.2.2.1.2.1
  have hpb : ∀ s, s < ns → pb s < 8 := fun s hs => (hA.2.2.2.2.1.2 s hs).2.2.1
  have hwd : ∀ w, w < 8 → isB (wd r w) := fun w hw => hA.2.2.2.2.2 r w hr hw
  obtain ⟨hC, hX, hL, hWo, hB1, hB2⟩ := id hG
  unfold fX7_firstUnlike fX7_firstUnlike_0
  refine zw.e (zgr_at hC.1 hC.2.2.1) ?_
  refine zw.e (zgr_at hL.1 hL.r_usedWords) ?_
  refine zw.e (zil_v hL.k_usedWords rfl (by omega) (by decide) rfl) ?_
  have hb := hA.2.1.2.2.2.2.2.2.2.2.1 s hs w (by omega)
  by_cases hu : uwd ins tl pb s w = true
  · refine zw.f (fun z => by rw [ush_0 (by omega), hb, hu] at z; cases z) ?_
    refine c_m1 hG hA hr hs hN (fun iv1 f1 hA1 g1 => ?_)
    refine zw.e (zgr_at hC.1 hC.2.2.2.2.2.1) ?_
    refine zw.e (zgr_at hC.1 hC.2.2.2.1) ?_
    refine zw.e (zal_at hWo.1 hr (by decide) (hWo.2 r hr).1) ?_
    refine zw.e (zrc_at hB2.1) ?_
    refine zw.c (c_makeIn hG hB2 (by omega) hA1 hr hs hN) ?_
    rintro S ⟨iv2, rfl, f2, g2, g3⟩
    have hA2 := hA1.fr f2 (fun a h1 h2 => by omega)
    have hS2 : cS (b + 63) iv2 s (thg tx lk tl pa pb ins (wd r) s) := (g1 s hs (hA.us hs)).far f2 (fun a h3 h4 => by omega) (by omega)
    unfold lX7_firstUnlike_49
    refine zw.loop (fun m y => ∃ k u iv3, k + m = n + 1 ∧ y = ((K, iv3, rv, lv), b, nI s, nI w, nI n, nI k) ∧ fQ (aBld (b + 116)) iv2 iv3 ∧ cV (b + 116) iv3 tx lk ns tl pa pb ins (trn (wd r) w u) (usd ins s) ∧ ∀ j, j < k → thg tx lk tl pa pb ins (trn (wd r) w (nI j)) s = thg tx lk tl pa pb ins (wd r) s) ?_ N (n + 1) _ (by omega) ⟨0, wd r w, iv2, by omega, rfl, fQ.rf, by rw [trn_self]; exact ⟨g2, fun k h1 h2 _ => g3 k h1 h2⟩, fun j hj => by omega⟩
    rintro m ⟨S, x0, x1, x2, x3, x4⟩ Kc ⟨k, u, iv3, hk, hy, f3, hV, g⟩ ih
    cases hy
    dsimp only
    unfold fX7_firstUnlike_49
    have fA : fQ (aTwo b) iv iv3 := (f1.tr (f2.mo (fun a h => by omega))).tr (f3.mo (fun a h => by omega))
    by_cases hm : m = 0
    · refine zw.t (nI_lt (show n < k by omega) (by omega)) (zw.s ⟨⟨-2, Or.inr ⟨rfl, fun v hv => g v (by omega)⟩, by rw [if_pos rfl]⟩, iv3, rfl, fA⟩)
    · refine zw.f (nI_nlt (show k ≤ n by omega) (by omega)) ?_
      have hA3 := hA2.fr f3 (fun a h1 h2 => by omega)
      refine zw.e (zgr_at hC.1 hC.2.2.2.2.2.1) ?_
      refine zw.e (zrc_at hB2.1) ?_
      refine zw.c (c_turn (v := nI k) (by omega) hB2 hL hA3.2.1 hA3.2.2.2.2.1 hA3.2.2.2.1.2.1 hw hV (by omega)) ?_
      rintro S ⟨iv4, rfl, f4, hV4⟩
      rw [trn_trn] at hV4
      have hA4 := hA3.fr f4 (fun a h1 h2 => by omega)
      have hS4 : cS (b + 63) iv4 s (thg tx lk tl pa pb ins (wd r) s) := (hS2.far f3 (fun a h3 h4 => by omega) (by omega)).far f4 (fun a h3 h4 => by omega) (by omega)
      refine c_redo hG hA4 hs hS4 (fun L e => (cthg_good hA hwd hs e).1) hV4 (trn_B hwd (by omega)) hN (fun iv5 f5 hV5 => ?_)
      have f35 : fQ (aBld (b + 116)) iv2 iv5 := (f3.tr (f4.mo (fun a h => by omega))).tr f5
      by_cases e : thg tx lk tl pa pb ins (wd r) s = thg tx lk tl pa pb ins (trn (wd r) w (nI k)) s
      · rw [if_pos e]
        refine zw.f (by decide) ?_
        refine ih (m - 1) _ (by omega) ⟨k + 1, nI k, iv5, by omega, by rw [nI_1 k], f35, hV5, fun j hj => ?_⟩
        by_cases e2 : j = k
        · rw [e2]; exact e.symm
        · exact g j (by omega)
      · rw [if_neg e]
        refine zw.t rfl (zw.s ⟨⟨nI k, Or.inl ⟨k, by omega, rfl, fun q => e q.symm, fun j hj q => q (g j hj)⟩, ?_⟩, iv5, rfl, (f1.tr (f2.mo (fun a h => by omega))).tr (f35.mo (fun a h => by omega))⟩)
        rw [if_neg]
        intro q
        have hp := nI_pos (show k < 2 ^ 31 by omega)
        rw [q] at hp
        exact hp (by decide)
  · refine zw.t ((ush_0 (by omega)).mpr (by rw [hb]; exact Bool.eq_false_iff.mpr hu)) (zw.s ⟨⟨-2, Or.inr ⟨rfl, fun v hv => ?_⟩, by rw [if_pos rfl]⟩, iv, rfl, fQ.rf⟩)
    refine thg_words hok hpb s hs (fun j hj hu2 => ?_)
    unfold trn
    rw [if_neg (fun q => hu (by rw [← q]; exact hu2))]
theorem spBrk_rng {s w n : Nat} {z : Int32} (hn : n ≤ 255) (hz : spBrk tx lk tl pa pb ins h s w n z) : z = -2 ∨ ∃ v, v ≤ 255 ∧ z = nI v := by
  rcases hz with ⟨v, h1, h2, -⟩ | ⟨h1, -⟩
  · exact Or.inr ⟨v, by omega, h2⟩
  · exact Or.inl h1
theorem c_stable {x y v t : Int32} (hG : cG b K rv) (hA : cA b iv tp nt tx lk ns tl pa pb ins wd) (hN : 600 < N) :
    zw (fX7_stable N (K, iv, rv, lv) b x y v t) (fun q => ((inR 8 x ∧ inR ns y ∧ inR 8 v ∧ inR 256 t → ∃ r, spBrk tx lk tl pa pb ins (wd x.toNatClampNeg) y.toNatClampNeg v.toNatClampNeg t.toNatClampNeg r ∧ q.1 = if r = -2 then 1 else 0) ∧ (¬ (inR 8 x ∧ inR ns y ∧ inR 8 v ∧ inR 256 t) → q.1 = -1)) ∧ ∃ iv', q.2 = (K, iv', rv, lv) ∧ fQ (aTwo b) iv iv') := by
  have hn := hA.2.2.2.2.1.1
  obtain ⟨hC, hX, hL, hWo, hB1, hB2⟩ := id hG
  unfold fX7_stable fX7_stable_0 fX7_stable_35 fX7_stable_55
  have bad : ¬ (inR 8 x ∧ inR ns y ∧ inR 8 v ∧ inR 256 t) → zw (some ((-1 : Int32), ((K, iv, rv, lv) : zS))) (fun q => ((inR 8 x ∧ inR ns y ∧ inR 8 v ∧ inR 256 t → ∃ r, spBrk tx lk tl pa pb ins (wd x.toNatClampNeg) y.toNatClampNeg v.toNatClampNeg t.toNatClampNeg r ∧ q.1 = if r = -2 then 1 else 0) ∧ (¬ (inR 8 x ∧ inR ns y ∧ inR 8 v ∧ inR 256 t) → q.1 = -1)) ∧ ∃ iv', q.2 = (K, iv', rv, lv) ∧ fQ (aTwo b) iv iv') := fun q => zw.s ⟨⟨fun z => absurd z q, fun _ => rfl⟩, iv, rfl, fQ.rf⟩
  refine zw.e2 c_isRoom ?_
  by_cases h1 : inR 8 x
  · rw [if_pos h1]
    refine zw.f (by decide) ?_
    refine zw.e (zrc_at hC.1) ?_
    refine zw.e2 (c_isStep hC hL hA.2.1.1) ?_
    by_cases h2 : inR ns y
    · rw [if_pos h2]
      refine zw.f (by decide) ?_
      refine zw.e2 c_isWord ?_
      by_cases h3 : inR 8 v
      · rw [if_pos h3]
        refine zw.f (by decide) ?_
        refine zw.it (fun c => bad fun q => q.2.2.2.1 c) (fun c1 => ?_)
        refine zw.it (fun c2 => ?_) (fun c => bad fun q => c (in_255.mpr q.2.2.2).2)
        have h4 : inR 256 t := in_255.mp ⟨c1, c2⟩
        have hall : inR 8 x ∧ inR ns y ∧ inR 8 v ∧ inR 256 t := ⟨h1, h2, h3, h4⟩
        obtain ⟨r, hr, rfl⟩ := h1.at (by decide)
        obtain ⟨s, hs, rfl⟩ := h2.at (by omega)
        obtain ⟨w, hw, rfl⟩ := h3.at (by decide)
        obtain ⟨n, hn2, rfl⟩ := h4.at (by decide)
        rw [nI_clamp (show r < 2 ^ 31 by omega), nI_clamp (show s < 2 ^ 31 by omega), nI_clamp (show w < 2 ^ 31 by omega), nI_clamp (show n < 2 ^ 31 by omega)]
        refine zw.e (zrc_at hC.1) ?_
        refine zw.c2 (c_firstUnlike hG hA hr hs hw (show n ≤ 255 by omega) hN) ?_
        rintro a S ⟨⟨z, hz, ha⟩, iv1, e, f1⟩
        dsimp only at ha e
        subst e
        rcases spBrk_rng (by omega) hz with e | ⟨u, hu, e⟩
        · rw [e, if_pos rfl] at ha
          rw [ha]
          exact zw.t rfl (zw.s ⟨⟨fun _ => ⟨z, hz, by rw [if_pos e]⟩, fun q => absurd hall q⟩, iv1, rfl, f1⟩)
        · have hne : ¬ z = -2 := fun q => by
            have hp := nI_pos (show u < 2 ^ 31 by omega)
            rw [← e, q] at hp
            exact hp (by decide)
          rw [if_neg hne] at ha
          rw [ha]
          refine zw.f (fun q => nI_n1 (show u < 2 ^ 31 by omega) (by rw [← e]; exact q)) (zw.s ⟨⟨fun _ => ⟨z, hz, by rw [if_neg hne]⟩, fun q => absurd hall q⟩, iv1, rfl, f1⟩)
      · rw [if_neg h3]
        exact zw.t rfl (bad fun q => h3 q.2.2.1)
    · rw [if_neg h2]
      exact zw.t rfl (bad fun q => h2 q.2.1)
  · rw [if_neg h1]
    exact zw.t rfl (bad fun q => h1 q.1)
theorem c_breaks {x y v : Int32} (hG : cG b K rv) (hA : cA b iv tp nt tx lk ns tl pa pb ins wd) (hN : 600 < N) :
    zw (fX7_breaks N (K, iv, rv, lv) b x y v) (fun q => ((inR 8 x ∧ inR ns y ∧ inR 8 v → spBrk tx lk tl pa pb ins (wd x.toNatClampNeg) y.toNatClampNeg v.toNatClampNeg 255 q.1) ∧ (¬ (inR 8 x ∧ inR ns y ∧ inR 8 v) → q.1 = -1)) ∧ ∃ iv', q.2 = (K, iv', rv, lv) ∧ fQ (aTwo b) iv iv') := by
  have hn := hA.2.2.2.2.1.1
  obtain ⟨hC, hX, hL, hWo, hB1, hB2⟩ := id hG
  unfold fX7_breaks fX7_breaks_0 fX7_breaks_22 fX7_breaks_49
  have bad : ¬ (inR 8 x ∧ inR ns y ∧ inR 8 v) → zw (some ((-1 : Int32), ((K, iv, rv, lv) : zS))) (fun q => ((inR 8 x ∧ inR ns y ∧ inR 8 v → spBrk tx lk tl pa pb ins (wd x.toNatClampNeg) y.toNatClampNeg v.toNatClampNeg 255 q.1) ∧ (¬ (inR 8 x ∧ inR ns y ∧ inR 8 v) → q.1 = -1)) ∧ ∃ iv', q.2 = (K, iv', rv, lv) ∧ fQ (aTwo b) iv iv') := fun q => zw.s ⟨⟨fun z => absurd z q, fun _ => rfl⟩, iv, rfl, fQ.rf⟩
  refine zw.e2 c_isRoom ?_
  by_cases h1 : inR 8 x
  · rw [if_pos h1]
    refine zw.f (by decide) ?_
    refine zw.e (zrc_at hC.1) ?_
    refine zw.e2 (c_isStep hC hL hA.2.1.1) ?_
    by_cases h2 : inR ns y
    · rw [if_pos h2]
      refine zw.f (by decide) ?_
      refine zw.e2 c_isWord ?_
      by_cases h3 : inR 8 v
      · rw [if_pos h3]
        refine zw.f (by decide) ?_
        have hall : inR 8 x ∧ inR ns y ∧ inR 8 v := ⟨h1, h2, h3⟩
        obtain ⟨r, hr, rfl⟩ := h1.at (by decide)
        obtain ⟨s, hs, rfl⟩ := h2.at (by omega)
        obtain ⟨w, hw, rfl⟩ := h3.at (by decide)
        rw [nI_clamp (show r < 2 ^ 31 by omega), nI_clamp (show s < 2 ^ 31 by omega), nI_clamp (show w < 2 ^ 31 by omega)]
        refine zw.e (zrc_at hC.1) ?_
        refine zw.c2 (c_firstUnlike (n := 255) hG hA hr hs hw (by decide) hN) ?_
        rintro a S ⟨⟨z, hz, ha⟩, iv1, e, f1⟩
        dsimp only at ha e
        subst e
        rcases spBrk_rng (by omega) hz with e | ⟨u, hu, e⟩
        · rw [e, if_pos rfl] at ha
          rw [ha]
          exact zw.t rfl (zw.s ⟨⟨fun _ => by rw [← e]; exact hz, fun q => absurd hall q⟩, iv1, rfl, f1⟩)
        · have hne : ¬ z = -2 := fun q => by
            have hp := nI_pos (show u < 2 ^ 31 by omega)
            rw [← e, q] at hp
            exact hp (by decide)
          rw [if_neg hne] at ha
          rw [ha]
          refine zw.f (fun q => nI_n1 (show u < 2 ^ 31 by omega) (by rw [← e]; exact q)) (zw.s ⟨⟨fun _ => hz, fun q => absurd hall q⟩, iv1, rfl, f1⟩)
      · rw [if_neg h3]
        exact zw.t rfl (bad fun q => h3 q.2.2)
    · rw [if_neg h2]
      exact zw.t rfl (bad fun q => h2 q.2.1)
  · rw [if_neg h1]
    exact zw.t rfl (bad fun q => h1 q.1)
end C8
