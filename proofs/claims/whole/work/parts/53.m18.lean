/-! the model: orders -/
section M18
variable {N b : Nat} {K : Nat → Option (Nat × Nat)} {iv : Nat → Nat → Int32} {rv : Nat → Nat → Option Nat} {lv : Nat → Nat → Int64}
variable {tp : List Int32} {nt : Nat} {tx : Nat → List Int32} {lk : Nat → Bool} {ns : Nat} {tl : Nat → Nat} {pa : Nat → Int32} {pb : Nat → Nat} {ins : Nat → List Nat} {wd : Nat → Nat → Int32}
theorem wout {t k : Nat} (hk : k < 31) : nI t &&& (((1 : Int32) <<< (nI k &&& 31)) ^^^ (-1)) = nI (if t.testBit k then rmv t k else t) := by
  apply b_ext
  intro i hi
  rw [b_and, bt_not _ hi, bt_one (by omega) hi, bt_nI hi, bt_nI hi]
  cases h : t.testBit k with
  | true =>
    rw [if_pos rfl, rmv_bit]
    by_cases e : i = k
    · subst e; simp [h]
    · simp [e]
  | false =>
    rw [if_neg (by decide)]
    by_cases e : i = k
    · subst e; simp [h]
    · simp [e]
theorem m_ways {n : Nat} {nd : Nat → Int32} (hL : mL b K rv) (hn : n ≤ 16) (h1 : 1 ≤ n) (hnd : ∀ r, r < n → iv (b + 17) r = nd r) (h0 : lv (b + 18) 0 = 1) (hN : 70000 < N) :
    zw (lX8_orders_159 N (K, iv, rv, lv) b (nI n) 1) (fun q => q.1 = lN (wys n nd (2 ^ n - 1)) ∧ ∃ lv', q.2 = (K, iv, rv, lv')) := by
  have hp : 2 ^ n ≤ 65536 := Nat.pow_le_pow_right (n := 2) (by decide) hn
  have hp1 : 2 ^ 1 ≤ 2 ^ n := Nat.pow_le_pow_right (n := 2) (by decide) h1
  unfold lX8_orders_159
  refine zw.loop (fun m y => ∃ t lv1, t + m = 2 ^ n ∧ 1 ≤ t ∧ y = ((K, iv, rv, lv1), b, nI n, nI t) ∧ ∀ u, u < t → lv1 (b + 18) u = lN (wys n nd u)) ?_ N (2 ^ n - 1) _ (by omega) ⟨1, lv, by omega, by omega, rfl, fun u hu => by rw [show u = 0 by omega, h0, wys_0]; rfl⟩
  rintro m ⟨S, x0, x3, x4⟩ Kc ⟨t, lv1, ht, ht1, hy, g⟩ ih
  cases hy
  dsimp only
  unfold fX8_orders_159
  rw [sh_pow n (by omega)]
  by_cases hm : m = 0
  · refine zw.t (nI_le (by omega) (by omega)) ?_
    refine zw.e (zgr_at hL.o hL.r_ways) ?_
    rw [show (1 : Int32) = nI 1 from rfl, nI_sub (by omega)]
    rw [zll_at hL.k_ways (by omega) (by decide)]
    exact zw.s ⟨g (2 ^ n - 1) (by omega), lv1, rfl⟩
  · refine zw.f (nI_ge (show t < 2 ^ n by omega) (by omega)) ?_
    refine zw.e (zgr_at hL.o hL.r_ways) ?_
    rw [zls_at hL.k_ways (show t < 65536 by omega) (by decide)]
    show zw (lX8_orders_178 N Kc (K, iv, rv, zu lv1 (b + 18) t 0) b (nI n) (nI t) 0) _
    unfold lX8_orders_178
    refine zw.loop (fun m2 y => ∃ k lv2, k + m2 = n ∧ y = ((K, iv, rv, lv2), b, nI n, nI t, nI k) ∧ (∀ u, u < t → lv2 (b + 18) u = lN (wys n nd u)) ∧ lv2 (b + 18) t = lN (fb_sm (fun k => if okL nd t k then wys n nd (rmv t k) else 0) k)) ?_ N n _ (by omega) ⟨0, _, by omega, rfl, fun u hu => by rw [zu_o (by omega)]; exact g u hu, zu_s⟩
    rintro m2 ⟨S, y0, y3, y4, y5⟩ Kc2 ⟨k, lv2, hk, hy2, g2, g3⟩ ih2
    cases hy2
    dsimp only
    unfold fX8_orders_178 fX8_orders_234 zlet
    by_cases hm2 : m2 = 0
    · have : k = n := by omega
      subst this
      refine zw.t (Int32.le_refl _) (ih (m - 1) _ (by omega) ⟨t + 1, lv2, by omega, by omega, by rw [nI_1 t], fun u hu => ?_⟩)
      by_cases e : u = t
      · rw [e, g3, wys_s (show t ≠ 0 by omega)]
      · exact g2 u (by omega)
    · refine zw.f (nI_ge (show k < n by omega) (by omega)) ?_
      rw [wout (by omega)]
      have skip : ¬ okL nd t k → zw (Kc2 ((K, iv, rv, lv2), b, nI n, nI t, nI k + 1)) (fun q => q.1 = lN (wys n nd (2 ^ n - 1)) ∧ ∃ lv', q.2 = (K, iv, rv, lv')) := fun h => ih2 (m2 - 1) _ (by omega) ⟨k + 1, lv2, by omega, by rw [nI_1 k], g2, by rw [fb_sm_succ, if_neg h]; exact g3⟩
      cases hb : t.testBit k with
      | false => exact zw.t rfl (skip fun q => by have := q.1; rw [hb] at this; cases this)
      | true =>
        have hlt := rmv_lt hb
        rw [if_pos rfl]
        refine zw.f (fun q => by have := (nI_eq (by omega) (by omega)).mp q; omega) ?_
        refine zw.e (zgr_at hL.o hL.r_needs) ?_
        refine zw.e (zil_v hL.k_needs rfl (by omega) (by decide) (hnd k (by omega))) ?_
        refine zw.it (fun c => ?_) (fun c => skip fun q => c q.2)
        refine zw.e (zgr_at hL.o hL.r_ways) ?_
        rw [zll_at hL.k_ways (show t < 65536 by omega) (by decide), g3]
        refine zw.e rfl ?_
        refine zw.e (zgr_at hL.o hL.r_ways) ?_
        rw [zll_at hL.k_ways (show rmv t k < 65536 by omega) (by decide), g2 _ hlt]
        refine zw.e rfl ?_
        rw [zls_at hL.k_ways (show t < 65536 by omega) (by decide)]
        refine zw.e rfl ?_
        refine ih2 (m2 - 1) _ (by omega) ⟨k + 1, _, by omega, by rw [nI_1 k], fun u hu => by rw [zu_o (by omega)]; exact g2 u hu, ?_⟩
        rw [zu_s, fb_sm_succ, if_pos ⟨hb, c⟩, lN_add]
theorem m_orders {x : Int32} (hL : mL b K rv) (hA : mA b iv tp nt tx lk ns tl pa pb ins wd) (hN : 70000 < N) :
    zw (fX8_orders N (K, iv, rv, lv) b x) (fun q => ((inR ns x → spOrd ins x.toNatClampNeg q.1) ∧ (¬ inR ns x → q.1 = -1)) ∧ ∃ iv' lv', q.2 = (K, iv', rv, lv') ∧ fM b [16, 17] [] iv iv') := by
  obtain ⟨hT, hP, hW, hdT, hdP, hdW⟩ := id hA
  have hn := hdP.1
  have hnt := hdT.2.1
  have hok := hdP.ok hnt
  unfold fX8_orders fX8_orders_0
  refine zw.e (zrc_at hL.o) ?_
  refine zw.e2 (m_isStep hL hP hn) ?_
  by_cases h1 : inR ns x
  · rw [if_pos h1]
    refine zw.f (by decide) ?_
    obtain ⟨s, hs, rfl⟩ := h1.at (by omega)
    rw [nI_clamp (show s < 2 ^ 31 by omega)]
    refine zw.e (zrc_at hL.o) ?_
    refine zw.c2 (m_usedBy hL hP hdP hnt hs (by omega)) ?_
    rintro u S ⟨rfl, hu⟩
    have hu : isS u (usd ins s) := hu
    refine zw.e2 (m_bits (by omega)) ?_
    rw [hu.bC, usd_ct hok hs]
    have hle : fb_ct (usd ins s) (s + 1) ≤ s + 1 := fb_ct_le _ _
    by_cases h16 : fb_ct (usd ins s) (s + 1) ≤ 16
    · refine zw.t (nI_le h16 (by decide)) ?_
      refine zw.imp (P := fun q => (∃ nd : Nat → Int32, (∀ k, k ≤ s → usd ins s k = true → nd (fb_ct (usd ins s) k) = ofS (ndP (usd ins s) ins k)) ∧ q.1 = lN (wys (fb_ct (usd ins s) (s + 1)) nd (2 ^ fb_ct (usd ins s) (s + 1) - 1))) ∧ ∃ iv' lv', q.2 = (K, iv', rv, lv') ∧ fM b [16, 17] [] iv iv') ?_ (fun q hq => ⟨⟨fun _ => ⟨fun z => absurd z (by omega), fun _ => hq.1⟩, fun z => absurd h1 z⟩, hq.2⟩)
      generalize hU : usd ins s = U at *
      unfold lX8_orders_38
      refine zw.loop (fun m y => ∃ k iv1, k + m = s + 1 ∧ y = ((K, iv1, rv, lv), b, nI s, u, nI (fb_ct U k), nI k) ∧ fM b [16, 17] [] iv iv1 ∧ (∀ j, j < k → U j = true → iv1 (b + 16) j = nI (fb_ct U j)) ∧ ∀ j, j < k → U j = true → iv1 (b + 17) (fb_ct U j) = ofS (ndP U ins j)) ?_ N (s + 1) _ (by omega) ⟨0, iv, by omega, rfl, fM.rf, fun j hj => by omega, fun j hj => by omega⟩
      rintro m ⟨S, x0, x1, x2, x3, x4⟩ Kc ⟨k, iv1, hk, hy, f1, g1, g2⟩ ih
      cases hy
      dsimp only
      unfold fX8_orders_38 fX8_orders_143
      by_cases hm : m = 0
      · have : k = s + 1 := by omega
        subst this
        refine zw.t (nI_lt (by omega) (by omega)) ?_
        refine zw.e (zgr_at hL.o hL.r_ways) ?_
        rw [show zls (K, iv1, rv, lv) (b + 18) (0 : Int32) 1 = some (K, iv1, rv, zu lv (b + 18) 0 1) from zls_at (i := 0) hL.k_ways (by decide) (by decide)]
        refine zw.e rfl ?_
        have hself : U s = true := by rw [← hU]; exact usd_self hok hs
        have h1c : 1 ≤ fb_ct U (s + 1) := by rw [fb_ct_succ, hself]; simp
        refine zw.imp (m_ways (nd := fun r => iv1 (b + 17) r) hL h16 h1c (fun r _ => rfl) zu_s hN) ?_
        rintro q ⟨e1, lv', e2⟩
        exact ⟨⟨fun r => iv1 (b + 17) r, fun k hk hu => g2 k (by omega) hu, e1⟩, iv1, lv', e2, f1⟩
      · refine zw.f (nI_nlt (show k ≤ s by omega) (by omega)) ?_
        have huk := hu k (by omega)
        by_cases c : bt u k = false
        · refine zw.t ((shr_0 (by omega)).mpr c) (ih (m - 1) _ (by omega) ⟨k + 1, iv1, by omega, ?_, f1, fun j hj q => ?_, fun j hj q => ?_⟩)
          · rw [nI_1 k, fb_ct_succ, ← huk, c]; rfl
          · by_cases e : j = k
            · rw [e, ← huk, c] at q; cases q
            · exact g1 j (by omega) q
          · by_cases e : j = k
            · rw [e, ← huk, c] at q; cases q
            · exact g2 j (by omega) q
        · have ct : U k = true := by rw [← huk]; exact bnf c
          refine zw.f (fun q => c ((shr_0 (by omega)).mp q)) ?_
          have hrk : fb_ct U k < 16 := by
            have h3 : fb_ct U (k + 1) ≤ fb_ct U (s + 1) := fb_ct_mono U (by omega)
            rw [fb_ct_succ, ct] at h3
            simp at h3
            omega
          refine zw.e (zgr_at hL.o hL.r_needs) ?_
          refine zw.e (zis_v hL.k_needs rfl (show fb_ct U k < 20 by omega) (by decide)) ?_
          have hl4 := (hdP.2 k (by omega)).2.2.2.1
          -- others keep their numbers
          have oth : ∀ j, j < k → U j = true → fb_ct U j ≠ fb_ct U k := fun j hj q e => by
            have := fb_ct_kth_one q ct e
            omega
          unfold lX8_orders_66
          refine zw.loop (fun m2 z => ∃ j iv2, j + m2 = (ins k).length ∧ z = ((K, iv2, rv, lv), b, nI s, u, nI (fb_ct U k), nI k, nI j) ∧ fM b [16, 17] [] iv iv2 ∧ (∀ j, j < k → U j = true → iv2 (b + 16) j = nI (fb_ct U j)) ∧ (∀ j, j < k → U j = true → iv2 (b + 17) (fb_ct U j) = ofS (ndP U ins j)) ∧ isS (iv2 (b + 17) (fb_ct U k)) (ndPj U ((ins k).take j))) ?_ N (ins k).length _ (by omega) ⟨0, _, by omega, rfl, f1.put (r := 17) (by simp) _ _, fun j hj q => by rw [zu_o (by omega)]; exact g1 j hj q, fun j hj q => by rw [zu_o (fun z => oth j hj q z.2)]; exact g2 j hj q, by rw [zu_s]; exact isS.zero fun i _ => rfl⟩
          rintro m2 ⟨S, y0, y1, y2, y3, y4, y5⟩ Kc2 ⟨j, iv2, hj, hy2, f2, p1, p2, p3⟩ ih2
          cases hy2
          dsimp only
          have hP2 := hP.fr f2 (by decide) (by decide)
          unfold fX8_orders_66 fX8_orders_126 fX8_orders_143
          refine zw.e (zgr_at hL.o hL.r_inputs) ?_
          refine zw.e (zil_v hL.k_inputs rfl (by omega) (by decide) (hP2.2.2.2.2.1 k (by omega))) ?_
          by_cases hm2 : m2 = 0
          · refine zw.t (nI_le (by omega) (by omega)) ?_
            refine zw.e (zgr_at hL.o hL.r_place) ?_
            refine zw.e (zis_v hL.k_place rfl (by omega) (by decide)) ?_
            refine ih (m - 1) _ (by omega) ⟨k + 1, zu iv2 (b + 16) k (nI (fb_ct U k)), by omega, ?_, f2.put (r := 16) (by simp) _ _, fun i hi q => ?_, fun i hi q => ?_⟩
            · rw [nI_1 k, nI_1, fb_ct_succ, ct]; rfl
            · by_cases e : i = k
              · rw [e, zu_s]
              · rw [zu_o (fun z => e z.2)]; exact p1 i (by omega) q
            · rw [zu_o (by omega)]
              by_cases e : i = k
              · rw [e]
                rw [List.take_of_length_le (by omega)] at p3
                exact p3.of
              · exact p2 i (by omega) q
          · refine zw.f (nI_ge (show j < (ins k).length by omega) (by omega)) ?_
            have hix : (4 : Int32) * nI k + nI j = nI (4 * k + j) := by rw [← nI_add, ← nI_mul]; rfl
            have hval := hP2.2.2.2.2.2 k (by omega) j (by omega)
            have hmem : (ins k).getD j 0 ∈ ins k := getD_mem (by omega)
            refine zw.e (zgr_at hL.o hL.r_input) ?_
            refine zw.e (zil_v hL.k_input hix (by omega) (by decide) hval) ?_
            rcases (hdP.2 k (by omega)).2.2.2.2 _ hmem with hlt | ⟨hge, hlt⟩
            · refine zw.t (nI_lt (show (ins k).getD j 0 < 100 by omega) (by decide)) (ih2 (m2 - 1) _ (by omega) ⟨j + 1, iv2, by omega, by rw [nI_1 j], f2, p1, p2, fun i hi => ?_⟩)
              rw [p3 i hi, ndPj_s (show j < (ins k).length by omega), decide_eq_false (show ¬ 100 ≤ (ins k).getD j 0 by omega)]
              simp
            · refine zw.f (nI_nlt hge (by omega)) ?_
              have hus : U ((ins k).getD j 0 - 100) = true := by
                rw [← hU] at ct ⊢
                exact (usd_back hok s hs _).mpr (Or.inr ⟨k, by omega, ct, by rw [show 100 + ((ins k).getD j 0 - 100) = (ins k).getD j 0 by omega]; exact hmem⟩)
              have hrj : fb_ct U ((ins k).getD j 0 - 100) ≤ 24 := Nat.le_trans (fb_ct_le _ _) (by omega)
              refine zw.e (zgr_at hL.o hL.r_needs) ?_
              refine zw.e (zil_v hL.k_needs rfl (show fb_ct U k < 20 by omega) (by decide) rfl) ?_
              refine zw.e (zgr_at hL.o hL.r_place) ?_
              refine zw.e (zgr_at hL.o hL.r_input) ?_
              refine zw.e (zil_v hL.k_input hix (by omega) (by decide) hval) ?_
              refine zw.e (zil_v (j := (ins k).getD j 0 - 100) hL.k_place (by rw [show (100 : Int32) = nI 100 from rfl, nI_sub hge]) (by omega) (by decide) (p1 _ (by omega) hus)) ?_
              refine zw.e (zis_v hL.k_needs rfl (show fb_ct U k < 20 by omega) (by decide)) ?_
              refine ih2 (m2 - 1) _ (by omega) ⟨j + 1, _, by omega, by rw [nI_1 j], f2.put (r := 17) (by simp) _ _, fun i hi q => by rw [zu_o (by omega)]; exact p1 i hi q, fun i hi q => by rw [zu_o (fun z => oth i hi q z.2)]; exact p2 i hi q, fun i hi => ?_⟩
              rw [zu_s, bt_set (by omega) hi, p3 i hi, ndPj_s (show j < (ins k).length by omega), decide_eq_true hge]
              by_cases e : fb_ct U ((ins k).getD j 0 - 100) = i
              · rw [e]; simp
              · have e2 : ¬ i = fb_ct U ((ins k).getD j 0 - 100) := fun q => e q.symm
                rw [decide_eq_false e, decide_eq_false e2]
                simp
    · refine zw.f (nI_ge (show 16 < fb_ct (usd ins s) (s + 1) by omega) (by omega)) (zw.s ⟨⟨fun _ => ⟨fun _ => rfl, fun q => absurd q h16⟩, fun q => absurd h1 q⟩, iv, lv, rfl, fM.rf⟩)
  · rw [if_neg h1]
    exact zw.t rfl (zw.s ⟨⟨fun q => absurd q h1, fun _ => rfl⟩, iv, lv, rfl, fM.rf⟩)
end M18
