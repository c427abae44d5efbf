/-! the class: fix, rooms -/
section C9
variable {N b B : Nat} {K : Nat → Option (Nat × Nat)} {iv : Nat → Nat → Int32} {rv : Nat → Nat → Option Nat} {lv : Nat → Nat → Int64} {S : zS}
variable {tp : List Int32} {nt : Nat} {tx : Nat → List Int32} {lk : Nat → Bool} {ns : Nat} {tl : Nat → Nat} {pa : Nat → Int32} {pb : Nat → Nat} {ins : Nat → List Nat} {h : Nat → Int32} {wd : Nat → Nat → Int32}
theorem c_isPart {m z : Nat} {x : Int32} (hz : z < 100) : fX7_isPart N S (nI m) x (nI z) = some (if nI m &&& (x ^^^ (-1)) = 0 ∧ pcn 32 m = z then 1 else 0, S) := by
  unfold fX7_isPart fX7_isPart_0 fX7_isPart_20 fX7_isPart_21
  have hle : pcn 32 m < 2 ^ 31 := Nat.lt_of_le_of_lt (fb_ct_le _ 32) (by decide)
  by_cases h1 : nI m &&& (x ^^^ (-1)) = 0
  · rw [if_pos h1, j_bitCount]
    simp only [zb2, Option.bind_some]
    rw [bC_nI]
    by_cases h2 : pcn 32 m = z
    · rw [if_pos ((nI_eq hle (by omega)).mpr h2), if_pos ⟨h1, h2⟩]
      rfl
    · rw [if_neg (fun q => h2 ((nI_eq hle (by omega)).mp q)), if_neg (fun q => h2 q.2)]
      rfl
  · rw [if_neg h1, if_neg (fun q => h1 q.1)]
    rfl
/-- does room q, with the words of a set out of room p, build the step as room p does -/
theorem c_isFixedBy {p q s m : Nat} (hG : cG b K rv) (hA : cA b iv tp nt tx lk ns tl pa pb ins wd) (hp : p < 8) (hq : q < 8) (hs : s < ns) (h1 : cS (b + 63) iv s (thg tx lk tl pa pb ins (wd p) s)) (hV : cV (b + 116) iv tx lk ns tl pa pb ins h (usd ins s)) (hN : 600 < N) :
    zw (fX7_isFixedBy N (K, iv, rv, lv) b (nI m) (nI p) (nI q) (nI s)) (fun z => z.1 = (if thg tx lk tl pa pb ins (wd p) s = thg tx lk tl pa pb ins (mix (wd p) (wd q) m) s then 1 else 0) ∧ ∃ iv' h', z.2 = (K, iv', rv, lv) ∧ fQ (aBld (b + 116)) iv iv' ∧ cV (b + 116) iv' tx lk ns tl pa pb ins h' (usd ins s)) := by
  have hn := hA.2.2.2.2.1.1
  have hok := hA.2.2.2.2.1.ok hA.2.2.2.1.2.1
  have hpb : ∀ s, s < ns → pb s < 8 := fun s hs => (hA.2.2.2.2.1.2 s hs).2.2.1
  obtain ⟨hC, hX, hL, hWo, hB1, hB2⟩ := id hG
  unfold fX7_isFixedBy fX7_isFixedBy_0 lX7_isFixedBy_3
  refine zw.loop (fun t y => ∃ k iv1, k + t = 8 ∧ y = ((K, iv1, rv, lv), b, nI m, nI p, nI q, nI s, nI k) ∧ fQ (aBld (b + 116)) iv iv1 ∧ cV (b + 116) iv1 tx lk ns tl pa pb ins (fun w => if w < k then mix (wd p) (wd q) m w else h w) (usd ins s)) ?_ N 8 _ (by omega) ⟨0, iv, by omega, rfl, fQ.rf, by simpa using hV⟩
  rintro t ⟨S, x0, x1, x2, x3, x4, x5⟩ Kc ⟨k, iv1, hk, hy, f1, hV1⟩ ih
  cases hy
  dsimp only
  unfold fX7_isFixedBy_3 fX7_isFixedBy_34
  have hA1 := hA.fr f1 (fun a h1 h2 => by omega)
  have hS1 := h1.far f1 (fun a h3 h4 => by omega) (by omega)
  have hmB : ∀ w, w < 8 → isB (mix (wd p) (wd q) m w) := fun w hw => by
    unfold mix
    split
    · exact hA.2.2.2.2.2 p w hp hw
    · exact hA.2.2.2.2.2 q w hq hw
  by_cases ht : t = 0
  · have : k = 8 := by omega
    subst this
    refine zw.t (by decide) ?_
    refine c_redo (F := fun v13 S12 => some (v13 &&& 1, S12)) hG hA1 hs hS1 (fun L e => (cthg_good hA (fun w hw => hA.2.2.2.2.2 p w hp hw) hs e).1) hV1 (fun w hw => by rw [if_pos hw]; exact hmB w hw) hN (fun iv2 f2 hV2 => ?_)
    refine zw.s ⟨?_, iv2, _, rfl, f1.tr f2, hV2⟩
    rw [thg_words (h := fun w => if w < 8 then mix (wd p) (wd q) m w else h w) (h' := mix (wd p) (wd q) m) hok hpb s hs (fun w hw _ => by rw [if_pos hw])]
    split <;> rfl
  · refine zw.f (nI_ge (show k < 8 by omega) (by decide)) ?_
    refine zw.e (zgr_at hC.1 hC.2.2.2.2.2.1) ?_
    refine zw.e (zgr_at hC.1 hC.2.2.2.1) ?_
    have body : ∀ r : Nat, r < 8 → wd r k = mix (wd p) (wd q) m k → zw ((zal (K, iv1, rv, lv) (b + 54) 13 (nI r)).bind fun v1 => (zil (K, iv1, rv, lv) v1 (nI k)).bind fun v2 => (zrc (K, iv1, rv, lv) (b + 116) 1).bind fun _ => (fX1_turn N (K, iv1, rv, lv) (b + 116) (nI k) v2).bind fun S4 => Kc (S4, b, nI m, nI p, nI q, nI s, nI k + 1)) (fun z => z.1 = (if thg tx lk tl pa pb ins (wd p) s = thg tx lk tl pa pb ins (mix (wd p) (wd q) m) s then 1 else 0) ∧ ∃ iv' h', z.2 = (K, iv', rv, lv) ∧ fQ (aBld (b + 116)) iv iv' ∧ cV (b + 116) iv' tx lk ns tl pa pb ins h' (usd ins s)) := by
      intro r hr e
      refine zw.e (zal_at hWo.1 hr (by decide) (hWo.2 r hr).1) ?_
      refine zw.e (zil_v (hWo.2 r hr).2 rfl (by omega) (by decide) (hA1.2.2.1 r k hr (by omega))) ?_
      refine zw.e (zrc_at hB2.1) ?_
      refine zw.c (c_turn (by omega) hB2 hL hA1.2.1 hA1.2.2.2.2.1 hA1.2.2.2.1.2.1 (show k < 8 by omega) hV1 (by omega)) ?_
      rintro S ⟨iv2, rfl, f2, hV2⟩
      refine ih (t - 1) _ (by omega) ⟨k + 1, iv2, by omega, by rw [nI_1 k], f1.tr (f2.mo (fun a h => by omega)), ?_⟩
      have hfun : trn (fun w => if w < k then mix (wd p) (wd q) m w else h w) k (wd r k) = fun w => if w < k + 1 then mix (wd p) (wd q) m w else h w := by
        funext j
        unfold trn
        by_cases e2 : j = k
        · rw [if_pos e2, e2, if_pos (by omega), e]
        · rw [if_neg e2]
          dsimp only
          by_cases e3 : j < k
          · rw [if_pos e3, if_pos (by omega)]
          · rw [if_neg e3, if_neg (by omega)]
      rw [hfun] at hV2
      exact hV2
    refine zw.it (fun c => body q hq ?_) (fun c => body p hp ?_)
    · rw [ush_0 (by omega)] at c
      unfold mix
      rw [if_neg (by rw [c]; decide)]
    · have c2 : bt (nI m) k = true := bnf (fun z => c ((ush_0 (by omega)).mpr z))
      unfold mix
      rw [if_pos c2]
/-- a set and its part in the words that count -/
theorem fx_cut {p q s m om : Nat} (hok : okP nt ns ins) (hpb : ∀ s, s < ns → pb s < 8) (hs : s < ns) (hom : ∀ i, i < 8 → om.testBit i = (uwd ins tl pb s i && unl wd p q i)) : fxD tx lk tl pa pb ins (wd p) (wd q) s m ↔ fxD tx lk tl pa pb ins (wd p) (wd q) s (m &&& om) := by
  unfold fxD
  rw [thg_words (h := mix (wd p) (wd q) m) (h' := mix (wd p) (wd q) (m &&& om)) hok hpb s hs (fun w hw hu => ?_)]
  unfold mix
  rw [bt_nI (by omega), bt_nI (by omega), Nat.testBit_and, hom w hw, hu, Bool.true_and]
  unfold unl
  rw [decide_eq_true hw, Bool.true_and]
  by_cases e : wd p w = wd q w
  · rw [e]; simp
  · rw [decide_eq_true e, Bool.and_true]
theorem c_fix {x y v : Int32} (hG : cG b K rv) (hA : cA b iv tp nt tx lk ns tl pa pb ins wd) (hN : 600 < N) :
    zw (fX7_fix N (K, iv, rv, lv) b x y v) (fun q => ((inR 8 x ∧ inR 8 y ∧ inR ns v → spFix (fxD tx lk tl pa pb ins (wd x.toNatClampNeg) (wd y.toNatClampNeg) v.toNatClampNeg) (-1) q.1) ∧ (¬ (inR 8 x ∧ inR 8 y ∧ inR ns v) → q.1 = -1)) ∧ ∃ iv', q.2 = (K, iv', rv, lv) ∧ fQ (aTwo b) iv iv') := by
  have hn := hA.2.2.2.2.1.1
  have hok := hA.2.2.2.2.1.ok hA.2.2.2.1.2.1
  have hpb : ∀ s, s < ns → pb s < 8 := fun s hs => (hA.2.2.2.2.1.2 s hs).2.2.1
  obtain ⟨hC, hX, hL, hWo, hB1, hB2⟩ := id hG
  unfold fX7_fix fX7_fix_0 fX7_fix_16
  refine zw.e2 c_areRooms ?_
  by_cases h1 : inR 8 x ∧ inR 8 y
  · rw [if_pos h1]
    refine zw.f (by decide) ?_
    refine zw.e (zrc_at hC.1) ?_
    refine zw.e2 (c_isStep hC hL hA.2.1.1) ?_
    by_cases h2 : inR ns v
    · rw [if_pos h2]
      refine zw.f (by decide) ?_
      have h3 : inR 8 x ∧ inR 8 y ∧ inR ns v := ⟨h1.1, h1.2, h2⟩
      obtain ⟨p, hp, rfl⟩ := h1.1.at (by decide)
      obtain ⟨q, hq, rfl⟩ := h1.2.at (by decide)
      obtain ⟨s, hs, rfl⟩ := h2.at (by omega)
      rw [nI_clamp (show p < 2 ^ 31 by omega), nI_clamp (show q < 2 ^ 31 by omega), nI_clamp (show s < 2 ^ 31 by omega)]
      refine zw.e (zrc_at hC.1) ?_
      refine zw.c (c_both hG hA hp hq hs hN) ?_
      rintro S ⟨iv1, rfl, f1, g1, g2, g3⟩
      have hA1 := hA.fr f1 (fun a h1 h2 => by omega)
      refine zw.e (zgr_at hC.1 hC.2.2.1) ?_
      refine zw.e (zgr_at hL.1 hL.r_usedWords) ?_
      refine zw.e (zil_v hL.k_usedWords rfl (by omega) (by decide) rfl) ?_
      refine zw.e (zrc_at hC.1) ?_
      refine zw.c2 (c_unlikeWords hC hWo hA1.2.2.1 hp hq (by omega)) ?_
      intro uu S e
      cases e
      have hop : isS (iv1 (b + 53) s &&& ofS (unl wd p q)) (fun w => uwd ins tl pb s w && unl wd p q w) := fun i hi => by
        rw [b_and, hA1.2.1.2.2.2.2.2.2.2.2.1 s hs i hi, bt_ofS hi]
      generalize iv1 (b + 53) s &&& ofS (unl wd p q) = op at hop
      obtain ⟨om, hom0, rfl⟩ := nI_ex op
      have hom : ∀ i, i < 32 → om.testBit i = (uwd ins tl pb s i && unl wd p q i) := fun i hi => by rw [← bt_nI hi]; exact hop i hi
      have hom8 : om < 256 := by
        apply Nat.lt_pow_two_of_testBit (n := 8)
        intro i hi
        by_cases h32 : i < 32
        · rw [hom i h32]
          unfold unl
          rw [decide_eq_false (by omega)]
          simp
        · exact tb_big hom0 (by omega)
      have hsub : ∀ m, m < 256 → (nI m &&& (nI om ^^^ (-1)) = 0 ↔ m &&& om = m) := fun m hm => by
        rw [sub_iff]
        constructor
        · intro hh
          apply Nat.eq_of_testBit_eq
          intro i
          rw [Nat.testBit_and]
          by_cases h32 : i < 32
          · have := hh i h32
            rw [bt_nI h32, bt_nI h32] at this
            cases hb : m.testBit i with
            | false => rfl
            | true => rw [this hb]; rfl
          · rw [tb_big (show m < 2 ^ 32 by omega) (by omega)]
            rfl
        · intro hh i hi hb
          rw [bt_nI hi] at hb ⊢
          rw [← hh, Nat.testBit_and, Bool.and_eq_true] at hb
          exact hb.2
      -- what is looked for
      have lift : ∀ k, isLs (fun m => m &&& om = m ∧ fxD tx lk tl pa pb ins (wd p) (wd q) s m) k → isLs (fxD tx lk tl pa pb ins (wd p) (wd q) s) k := fun k hk => ⟨hk.1, hk.2.1.2, fun j hj hd => by
        have hj' : j &&& om ≤ j := Nat.and_le_left
        have e1 : (j &&& om) &&& om = j &&& om := by rw [Nat.and_assoc, Nat.and_self]
        have hd' : fxD tx lk tl pa pb ins (wd p) (wd q) s (j &&& om) := (fx_cut hok hpb hs (fun i hi => hom i (by omega))).mp hd
        have hc : pcn 32 (j &&& om) ≤ pcn 32 j := fb_ct_sub fun i _ hb => by
          rw [Nat.testBit_and, Bool.and_eq_true] at hb
          exact hb.1
        rcases hk.2.2 (j &&& om) (by omega) ⟨e1, hd'⟩ with z | z <;> omega⟩
      have dom : fxD tx lk tl pa pb ins (wd p) (wd q) s om := by
        have : fxD tx lk tl pa pb ins (wd p) (wd q) s 255 := by
          unfold fxD
          refine thg_words hok hpb s hs (fun w hw _ => ?_)
          unfold mix
          rw [bt_nI (by omega), if_pos]
          have : (2 ^ 8 - 1).testBit w = true := by rw [Nat.testBit_two_pow_sub_one, decide_eq_true hw]
          exact this
        have h4 := (fx_cut hok hpb hs (fun i hi => hom i (by omega))).mp this
        have e1 : 255 &&& om = om := by
          rw [Nat.and_comm, show (255 : Nat) = 2 ^ 8 - 1 from rfl, Nat.and_two_pow_sub_one_eq_mod, Nat.mod_eq_of_lt hom8]
        rwa [e1] at h4
      have hS1 := g1 s hs (hA.us hs)
      refine zw.imp (P := fun z => spFix (fxD tx lk tl pa pb ins (wd p) (wd q) s) (-1) z.1 ∧ ∃ iv', z.2 = (K, iv', rv, lv) ∧ fQ (aTwo b) iv iv') ?_ (fun z hz => ⟨⟨fun _ => hz.1, fun z => absurd h3 z⟩, hz.2⟩)
      unfold lX7_fix_46
      refine zw.loop (fun t y => ∃ z iv2 hh, z + t = 9 ∧ y = ((K, iv2, rv, lv), b, nI p, nI q, nI s, nI om, nI z) ∧ fQ (aBld (b + 116)) iv1 iv2 ∧ cV (b + 116) iv2 tx lk ns tl pa pb ins hh (usd ins s) ∧ srI (fun m => m &&& om = m ∧ fxD tx lk tl pa pb ins (wd p) (wd q) s m) z 0) ?_ N 9 _ (by omega) ⟨0, iv1, wd q, by omega, rfl, fQ.rf, ⟨g2, fun k h1 h2 _ => g3 k h1 h2⟩, fun j hj hd => by
        rcases Nat.eq_zero_or_pos (pcn 32 j) with z | z
        · exact Or.inr ⟨z.symm, Nat.zero_le _⟩
        · exact Or.inl z⟩
      rintro t ⟨S, x0, x1, x2, x3, x4, x5⟩ Kc ⟨z, iv2, hh, hk, hy, f2, hV2, gs⟩ ih
      cases hy
      dsimp only
      unfold fX7_fix_46
      by_cases ht : t = 0
      · have : z = 9 := by omega
        subst this
        exact absurd ⟨Nat.and_self om, dom⟩ (gs.fin om hom8)
      · refine zw.f (nI_nlt (show z ≤ 8 by omega) (by decide)) ?_
        unfold lX7_fix_56
        refine zw.loop (fun t2 y => ∃ m iv3 hh, m + t2 = 256 ∧ y = ((K, iv3, rv, lv), b, nI p, nI q, nI s, nI om, nI z, nI m) ∧ fQ (aBld (b + 116)) iv1 iv3 ∧ cV (b + 116) iv3 tx lk ns tl pa pb ins hh (usd ins s) ∧ srI (fun m => m &&& om = m ∧ fxD tx lk tl pa pb ins (wd p) (wd q) s m) z m) ?_ N 256 _ (by omega) ⟨0, iv2, hh, by omega, rfl, f2, hV2, gs⟩
        rintro t2 ⟨S, x0, x1, x2, x3, x4, x5, x6⟩ Kc2 ⟨m, iv3, hh3, hk2, hy2, f3, hV3, gs3⟩ ih2
        cases hy2
        dsimp only
        unfold fX7_fix_56 fX7_fix_91
        by_cases ht2 : t2 = 0
        · have : m = 256 := by omega
          subst this
          refine zw.t (by decide) ?_
          exact ih (t - 1) _ (by omega) ⟨z + 1, iv3, hh3, by omega, by rw [nI_1 z], f3, hV3, gs3.row 0 (fun _ _ => Nat.zero_le _)⟩
        · have hm256 : m < 256 := by omega
          refine zw.f (nI_nlt (show m ≤ 255 by omega) (by decide)) ?_
          refine zw.e2 (c_isPart (by omega)) ?_
          by_cases hpt : nI m &&& (nI om ^^^ (-1)) = 0 ∧ pcn 32 m = z
          · rw [if_pos hpt]
            refine zw.f (by decide) ?_
            refine zw.e (zrc_at hC.1) ?_
            have hA3 := hA1.fr f3 (fun a h1 h2 => by omega)
            refine zw.c2 (c_isFixedBy (m := m) hG hA3 hp hq hs (hS1.far f3 (fun a h3 h4 => by omega) (by omega)) hV3 hN) ?_
            rintro r S ⟨hr, iv4, h4, e, f4, hV4⟩
            dsimp only at hr e
            subst e
            by_cases hfx : fxD tx lk tl pa pb ins (wd p) (wd q) s m
            · rw [if_pos (show thg tx lk tl pa pb ins (wd p) s = thg tx lk tl pa pb ins (mix (wd p) (wd q) m) s from hfx)] at hr
              rw [hr]
              refine zw.f (by decide) (zw.s ⟨Or.inl ⟨m, rfl, lift m (gs3.found hm256 ⟨(hsub m hm256).mp hpt.1, hfx⟩ hpt.2)⟩, iv4, rfl, f1.tr ((f3.tr f4).mo (fun a h => by omega))⟩)
            · rw [if_neg (show ¬ thg tx lk tl pa pb ins (wd p) s = thg tx lk tl pa pb ins (mix (wd p) (wd q) m) s from hfx)] at hr
              rw [hr]
              refine zw.t rfl ?_
              exact ih2 (t2 - 1) _ (by omega) ⟨m + 1, iv4, h4, by omega, by rw [nI_1 m], f3.tr f4, hV4, gs3.next (fun z => hfx z.1.2)⟩
          · rw [if_neg hpt]
            refine zw.t rfl ?_
            exact ih2 (t2 - 1) _ (by omega) ⟨m + 1, iv3, hh3, by omega, by rw [nI_1 m], f3, hV3, gs3.next (fun z => hpt ⟨(hsub m hm256).mpr z.1.1, z.2⟩)⟩
    · rw [if_neg h2]
      exact zw.t rfl (zw.s ⟨⟨fun q => absurd q.2.2 h2, fun _ => rfl⟩, iv, rfl, fQ.rf⟩)
  · rw [if_neg h1]
    exact zw.t rfl (zw.s ⟨⟨fun q => absurd ⟨q.1, q.2.1⟩ h1, fun _ => rfl⟩, iv, rfl, fQ.rf⟩)
end C9
