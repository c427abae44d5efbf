/-! the class: orders -/
section C15
variable {N b z : Nat} {K : Nat → Option (Nat × Nat)} {iv : Nat → Nat → Int32} {rv : Nat → Nat → Option Nat} {lv : Nat → Nat → Int64} {S : zS} {l1 l2 wa wn : Nat}
variable {nt : Nat} {ns : Nat} {tl : Nat → Nat} {pa : Nat → Int32} {pb : Nat → Nat} {ins : Nat → List Nat}
theorem c_numIn {s k : Nat} (hL : cPla b K rv) (hO : cOrd b wa wn K rv) (hP : cP b iv ns tl pa pb ins) (hd : dP nt ns tl pa pb ins) (hnt : nt ≤ 20) (hs : s < ns) (hk : k < ns) (hu : usd ins s k = true) (hnum : ∀ j, j < k → usd ins s j = true → iv (b + 179) j = nI (fb_ct (usd ins s) j)) (hN : 100 < N) :
    zw (fX3_numberedInputs N (K, iv, rv, lv) (b + 176) (b + 45) (nI k)) (fun q => q = (ofS (ndP (usd ins s) ins k), (K, iv, rv, lv))) := by
  have hn := hd.1
  have hok := hd.ok hnt
  have h4 := (hd.2 k hk).2.2.2.1
  obtain ⟨o1, o2, o3, o4, o5, o6⟩ := hO
  unfold fX3_numberedInputs fX3_numberedInputs_0 lX3_numberedInputs_5
  refine zw.loop (fun m y => ∃ j x, j + m = (ins k).length ∧ y = ((K, iv, rv, lv), b + 176, b + 45, nI k, x, nI j) ∧ isS x (ndPj (usd ins s) ((ins k).take j))) ?_ N (ins k).length _ (by omega) ⟨0, 0, by omega, rfl, isS.zero fun i hi => rfl⟩
  rintro m ⟨S, x0, x1, x2, x3, x4⟩ Kc ⟨j, x, hj, hy, g⟩ ih
  cases hy
  dsimp only
  unfold fX3_numberedInputs_5 fX3_numberedInputs_47 zlet
  refine zw.e (zgr_at hL.1 hL.r_inputCount) ?_
  refine zw.e (zil_v hL.k_inputCount rfl (by omega) (by decide) (hP.2.2.2.2.1 k hk)) ?_
  by_cases hm : m = 0
  · refine zw.t (nI_le (by omega) (by omega)) (zw.s ?_)
    rw [List.take_of_length_le (by omega)] at g
    rw [g.of]
    rfl
  · have hjl : j < (ins k).length := by omega
    refine zw.f (nI_ge hjl (by omega)) ?_
    refine zw.e (zrc_at hL.1) ?_
    refine zw.e2 (c_input hL hP hd hk hjl) ?_
    obtain ⟨m1, m2⟩ := in_ok hd hk hjl
    have hstep := fun t => ndPj_s (U := usd ins s) (t := t) hjl
    generalize hi : (ins k).getD j 0 = i at m1 m2 hstep
    by_cases h1 : 100 ≤ i
    · refine zw.f (nI_nlt h1 (by omega)) ?_
      have hik : i - 100 < k := by omega
      have hui : usd ins s (i - 100) = true := usd_cl hok hs k hk hu (i - 100) (by rw [show 100 + (i - 100) = i by omega]; exact m1)
      refine zw.e (zgr_at o1 o4.1) ?_
      refine zw.e (zil_v (j := i - 100) o4.2 (nI_sub h1) (by omega) (by decide) (hnum _ hik hui)) ?_
      have hc := fb_ct_le (usd ins s) (i - 100)
      refine ih (m - 1) _ (by omega) ⟨j + 1, _, by omega, by rw [nI_1 j], fun t ht => ?_⟩
      rw [bt_set (by omega) ht, g t ht, hstep t, decide_eq_true h1, Bool.true_and]
      congr 1
      by_cases e : t = fb_ct (usd ins s) (i - 100)
      · simp [e]
      · have e2 : ¬ fb_ct (usd ins s) (i - 100) = t := fun q => e q.symm
        simp [e, e2]
    · refine zw.t (nI_lt (show i < 100 by omega) (by decide)) ?_
      refine ih (m - 1) _ (by omega) ⟨j + 1, _, by omega, by rw [nI_1 j], fun t ht => ?_⟩
      rw [g t ht, hstep t, decide_eq_false h1]
      simp
theorem c_numOth {s : Nat} (hL : cPla b K rv) (hO : cOrd b wa wn K rv) (hP : cP b iv ns tl pa pb ins) (hd : dP nt ns tl pa pb ins) (hnt : nt ≤ 20) (hs : s < ns) (h15 : fb_ct (usd ins s) s ≤ 15) (hN : 100 < N) :
    zw (fX3_numberOthers N (K, iv, rv, lv) (b + 176) (b + 45) (nI s)) (fun q => q.1 = nI (fb_ct (usd ins s) s) ∧ ∃ iv', q.2 = (K, iv', rv, lv) ∧ fQ (fun c => c = b + 178 ∨ c = b + 179) iv iv' ∧ ∀ j, j < s → usd ins s j = true → iv' (b + 178) (fb_ct (usd ins s) j) = ofS (ndP (usd ins s) ins j)) := by
  have hn := hd.1
  have hO2 := hO
  obtain ⟨o1, o2, o3, o4, o5, o6⟩ := hO
  unfold fX3_numberOthers fX3_numberOthers_0 lX3_numberOthers_5
  refine zw.loop (fun m y => ∃ k iv1, k + m = s ∧ y = ((K, iv1, rv, lv), b + 176, b + 45, nI s, nI (fb_ct (usd ins s) k), nI k) ∧ fQ (fun c => c = b + 178 ∨ c = b + 179) iv iv1 ∧ (∀ j, j < k → usd ins s j = true → iv1 (b + 179) j = nI (fb_ct (usd ins s) j)) ∧ ∀ j, j < k → usd ins s j = true → iv1 (b + 178) (fb_ct (usd ins s) j) = ofS (ndP (usd ins s) ins j)) ?_ N s _ (by omega) ⟨0, iv, by omega, rfl, fQ.rf, fun j hj => by omega, fun j hj => by omega⟩
  rintro m ⟨S, x0, x1, x2, x3, x4⟩ Kc ⟨k, iv1, hk, hy, f1, g1, g2⟩ ih
  cases hy
  dsimp only
  unfold fX3_numberOthers_5 fX3_numberOthers_55
  by_cases hm : m = 0
  · have : k = s := by omega
    subst this
    exact zw.t (Int32.le_refl _) (zw.s ⟨rfl, iv1, rfl, f1, g2⟩)
  · refine zw.f (nI_ge (show k < s by omega) (by omega)) ?_
    have hP1 : cP b iv1 ns tl pa pb ins := hP.fr f1 (fun a h1 h2 => by omega)
    refine zw.e (zgr_at hL.1 hL.r_used) ?_
    refine zw.e (zil_v hL.k_used rfl (by omega) (by decide) rfl) ?_
    have hb := hP1.2.2.2.2.2.2.1 s hs k (by omega)
    by_cases hu : usd ins s k = true
    · refine zw.f (fun q => by rw [ush_0 (by omega), hb, hu] at q; cases q) ?_
      have hct : fb_ct (usd ins s) (k + 1) = fb_ct (usd ins s) k + 1 := by rw [fb_ct_succ, hu]; rfl
      have hmono := fb_ct_mono (usd ins s) (show k + 1 ≤ s by omega)
      refine zw.f (nI_ge (show fb_ct (usd ins s) k < 15 by omega) (by decide)) ?_
      refine zw.e (zgr_at o1 o4.1) ?_
      refine zw.e (zis_v o4.2 rfl (by omega) (by decide)) ?_
      refine zw.e (zgr_at o1 o3.1) ?_
      refine zw.e (zrc_at o1) ?_
      have f2 : fQ (fun c => c = b + 179) iv1 (zu iv1 (b + 179) k (nI (fb_ct (usd ins s) k))) := fQ.put (A := fun c => c = b + 179) fQ.rf rfl _ _
      refine zw.c2 (c_numIn hL hO2 (hP1.fr f2 (fun a h1 h2 => by omega)) hd hnt hs (show k < ns by omega) hu (fun j hj hu2 => by rw [zu_o (by omega)]; exact g1 j hj hu2) hN) ?_
      intro v S e
      cases e
      refine zw.e (zis_v o3.2 rfl (by omega) (by decide)) ?_
      refine ih (m - 1) _ (by omega) ⟨k + 1, _, by omega, by rw [nI_1 k, nI_1, hct], (f1.put (Or.inr rfl) _ _).put (Or.inl rfl) _ _, fun j hj hu2 => ?_, fun j hj hu2 => ?_⟩
      · rw [zu_o (by omega)]
        by_cases e : j = k
        · rw [e, zu_s]
        · rw [zu_o (by omega)]; exact g1 j (by omega) hu2
      · by_cases e : j = k
        · rw [e, zu_s]
        · rw [zu_o (fun q => e (fb_ct_kth_one hu2 hu q.2)), zu_o (by omega)]
          exact g2 j (by omega) hu2
    · have hu' := Bool.eq_false_iff.mpr hu
      refine zw.t ((ush_0 (by omega)).mpr (by rw [hb]; exact hu')) ?_
      have hct : fb_ct (usd ins s) (k + 1) = fb_ct (usd ins s) k := by rw [fb_ct_succ, hu']; rfl
      refine ih (m - 1) _ (by omega) ⟨k + 1, iv1, by omega, by rw [nI_1 k, hct], f1, fun j hj hu2 => ?_, fun j hj hu2 => ?_⟩
      · exact g1 j (by by_cases e : j = k; (rw [e] at hu2; exact absurd hu2 hu); omega) hu2
      · exact g2 j (by by_cases e : j = k; (rw [e] at hu2; exact absurd hu2 hu); omega) hu2
/-- the answer, out of the numbers of the others -/
theorem ord_ans {s : Nat} {nd : Nat → Int32} (hok : okP nt ns ins) (hs : s < ns) (h16 : fb_ct (usd ins s) (s + 1) ≤ 16) (hnd : ∀ j, j < s → usd ins s j = true → nd (fb_ct (usd ins s) j) = ofS (ndP (usd ins s) ins j)) : spOrd ins s (lN (wys (fb_ct (usd ins s) s) nd (2 ^ fb_ct (usd ins s) s - 1))) := by
  have hself : usd ins s s = true := usd_self hok hs
  have hct : fb_ct (usd ins s) (s + 1) = fb_ct (usd ins s) s + 1 := by rw [fb_ct_succ, hself]; rfl
  refine ⟨fun q => by omega, fun _ => ⟨fun k => if k < fb_ct (usd ins s) s then nd k else ofS (ndP (usd ins s) ins s), fun k hk hu => ?_, ?_⟩⟩
  · dsimp only
    by_cases e : k = s
    · rw [e, if_neg (by omega)]
    · have h1 : fb_ct (usd ins s) (k + 1) = fb_ct (usd ins s) k + 1 := by rw [fb_ct_succ, hu]; rfl
      have h2 := fb_ct_mono (usd ins s) (show k + 1 ≤ s by omega)
      rw [if_pos (by omega)]
      exact hnd k (by omega) hu
  · rw [hct]
    have hlow : ∀ i, i < s → usd ins s i = true → fb_ct (usd ins s) i < fb_ct (usd ins s) s := fun i hi hu => by
      have h1 : fb_ct (usd ins s) (i + 1) = fb_ct (usd ins s) i + 1 := by rw [fb_ct_succ, hu]; rfl
      have h2 := fb_ct_mono (usd ins s) (show i + 1 ≤ s by omega)
      omega
    have hval : ∀ m, m ≤ s → usd ins s m = true → (if fb_ct (usd ins s) m < fb_ct (usd ins s) s then nd (fb_ct (usd ins s) m) else ofS (ndP (usd ins s) ins s)) = ofS (ndP (usd ins s) ins m) := fun m hm hu => by
      by_cases e : m = s
      · rw [e, if_neg (by omega)]
      · rw [if_pos (hlow m (by omega) hu)]
        exact hnd m (by omega) hu
    rw [wys_last (by omega) (fun k hk => ?_) (fun i hi hb => ?_)]
    · congr 1
      exact wys_cong (fun k hk => by rw [if_pos hk]) _
    · obtain ⟨i, hi, hu, hc⟩ := fb_ct_kth hk
      rcases (usd_back hok s hs i).mp hu with e | ⟨m, hm, hum, hin⟩
      · omega
      · have him : i < m := by
          rcases hok.2.2 m (by omega) _ hin with q | q
          · have := hok.1; omega
          · omega
        refine ⟨fb_ct (usd ins s) m, ?_, fun q => ?_, ?_⟩
        · by_cases e : m = s
          · rw [e]; omega
          · have := hlow m (by omega) hum; omega
        · have := fb_ct_kth_one hum hu (by rw [q, hc])
          omega
        · rw [hval m hm hum, bt_ofS (by omega)]
          unfold ndP
          rw [List.any_eq_true]
          refine ⟨100 + i, hin, ?_⟩
          rw [Bool.and_eq_true, decide_eq_true_eq, decide_eq_true_eq, show 100 + i - 100 = i by omega]
          exact ⟨by omega, hc⟩
    · rw [if_neg (by omega), bt_ofS hi] at hb
      unfold ndP at hb
      rw [List.any_eq_true] at hb
      obtain ⟨j, hj, hb⟩ := hb
      rw [Bool.and_eq_true, decide_eq_true_eq, decide_eq_true_eq] at hb
      have hjs : j - 100 < s := by
        rcases hok.2.2 s hs j hj with q | q
        · have := hok.1; omega
        · omega
      have := hlow (j - 100) hjs (usd_cl hok hs s hs hself (j - 100) (by rw [show 100 + (j - 100) = j by omega]; exact hj))
      omega
theorem zlg_nI {n : Nat} (h : n ≤ 65536) : zlg (nI n) = some n := by
  unfold zlg
  rw [nI_clamp (show n < 2 ^ 31 by omega)]
  exact if_pos ⟨nI_pos (by omega), h⟩
/-- what orders may cost, and what stays -/
theorem c_orders {x : Int32} (hL : cL b l1 l2 wa wn K rv) (hP : cP b iv ns tl pa pb ins) (hd : dP nt ns tl pa pb ins) (hnt : nt ≤ 20) (hz : b + 183 ≤ z) (hw2 : ∃ e, wn = 2 ^ e) (hN : 70000 < N) :
    ∃ MC MS wa' wn', zw (fX7_orders N MC MS (K, iv, rv, lv) z 0 0 b x) (fun q => ((inR ns x → spOrd ins x.toNatClampNeg q.1) ∧ (¬ inR ns x → q.1 = -1)) ∧ ∃ K' iv' rv' lv', q.2.1 = (K', iv', rv', lv') ∧ cL b l1 l2 wa' wn' K' rv' ∧ fQ (fun c => c = b + 178 ∨ c = b + 179 ∨ c = z) iv iv' ∧ z ≤ q.2.2) ∧ (∃ e, wn' = 2 ^ e) ∧ MC ≤ 1 ∧ MS + 2 * wn ≤ 2 * wn' := by
  obtain ⟨ew, hew⟩ := hw2
  have hn := hd.1
  have hok := hd.ok hnt
  have hLa := hL
  obtain ⟨hC, hX, hPl, hWo, hB1, hB2, hAl, hO, hMk⟩ := hL
  by_cases h1 : inR ns x
  · obtain ⟨s, hs, rfl⟩ := h1.at (by omega)
    have hc : (nI s).toNatClampNeg = s := nI_clamp (by omega)
    have hself : usd ins s s = true := usd_self hok hs
    have hct : fb_ct (usd ins s) (s + 1) = fb_ct (usd ins s) s + 1 := by rw [fb_ct_succ, hself]; rfl
    have hbc : bC (iv (b + 51) s) = fb_ct (usd ins s) (s + 1) := by rw [(hP.2.2.2.2.2.2.1 s hs).bC]; exact usd_ct hok hs
    by_cases h16 : fb_ct (usd ins s) (s + 1) ≤ 16
    · -- the number of the others
      have hn15 : fb_ct (usd ins s) s ≤ 15 := by omega
      have hp : 2 ^ fb_ct (usd ins s) s ≤ 32768 := Nat.pow_le_pow_right (n := 2) (by decide) hn15
      have hp0 : 0 < 2 ^ fb_ct (usd ins s) s := Nat.two_pow_pos _
      generalize hgn : fb_ct (usd ins s) s = n at hct hn15 hp hp0
      have pre : ∀ MC MS : Nat, ∀ P : Int64 × zS × Nat → Prop, (∀ iv1, fQ (fun c => c = b + 178 ∨ c = b + 179) iv iv1 → (∀ j, j < s → usd ins s j = true → iv1 (b + 178) (fb_ct (usd ins s) j) = ofS (ndP (usd ins s) ins j)) → zw ((zgr (K, iv1, rv, lv) (b + 176) 3 0).bind fun v17 => (zln (K, iv1, rv, lv) v17 10).bind fun v18 => if nI (2 ^ n) ≤ v18 then fX3_ordersOf_30 N MC MS (K, iv1, rv, lv) z 0 0 (b + 176) (nI n) (nI (2 ^ n)) else (zlg (nI (2 ^ n))).bind fun k19 => (zbud MC MS 0 0 1 k19).bind fun _ => zlet (zad (K, iv1, rv, lv) z 10 k19) fun S21 => (zpr S21 (b + 176) 3 0 z).bind fun S22 => fX3_ordersOf_30 N MC MS S22 (z + 1) (0 + 1) (0 + k19) (b + 176) (nI n) (nI (2 ^ n))) P) → zw (fX7_orders N MC MS (K, iv, rv, lv) z 0 0 b (nI s)) P := by
        intro MC MS P kk
        have hb0 : zbud MC MS 0 0 0 0 = some () := if_pos ⟨Nat.zero_le _, Nat.zero_le _⟩
        have hbM : zbud MC MS 0 0 MC MS = some () := if_pos ⟨by omega, by omega⟩
        unfold fX7_orders fX7_orders_0
        refine zw.e hb0 ?_
        refine zw.e (zrc_at hC.1) ?_
        refine zw.e2 (c_isStep hC hPl hP.1) ?_
        rw [if_pos h1]
        refine zw.f (by decide) ?_
        refine zw.e (zgr_at hC.1 hC.2.2.1) ?_
        refine zw.e (zgr_at hPl.1 hPl.r_used) ?_
        refine zw.e (zil_v hPl.k_used rfl (by omega) (by decide) rfl) ?_
        refine zw.e hb0 ?_
        refine zw.e2 j_bitCount ?_
        rw [hbc]
        refine zw.t (nI_le h16 (by decide)) ?_
        refine zw.e (zgr_at hC.1 hC.2.2.2.2.2.2.2.1) ?_
        refine zw.e (zgr_at hC.1 hC.2.2.1) ?_
        refine zw.e hbM ?_
        refine zw.e (zrc_at hO.1) ?_
        have key : zw (fX3_ordersOf N MC MS (K, iv, rv, lv) z 0 0 (b + 176) (b + 45) (nI s)) P := by
          unfold fX3_ordersOf fX3_ordersOf_0
          refine zw.e hb0 ?_
          refine zw.e (zrc_at hO.1) ?_
          refine zw.c2 (c_numOth hPl hO hP hd hnt hs (by omega) (by omega)) ?_
          rintro v S ⟨hv, iv1, e, f1, g1⟩
          dsimp only at hv e
          subst e
          rw [hv, hgn, sh_pow n (by omega)]
          exact kk iv1 f1 g1
        obtain ⟨⟨v, S, zz⟩, e, hq⟩ := key
        rw [e]
        have hfin : zfin MC MS (0 + MC) (0 + MS) (v, S, zz) = some (v, S, zz) := if_pos ⟨by omega, by omega⟩
        exact ⟨(v, S, zz), hfin, hq⟩
      by_cases hbig : 2 ^ n ≤ wn
      · refine ⟨0, 0, wa, wn, ?_, ⟨ew, hew⟩, by omega, by omega⟩
        refine pre 0 0 _ (fun iv1 f1 g1 => ?_)
        refine zw.e (zgr_at hO.1 hO.2.1.1) ?_
        refine zw.e (zln_at hO.2.1.2) ?_
        refine zw.t (nI_le hbig (by have := hO.2.2.2.2.2; omega)) ?_
        refine zw.imp (c_allSets (nd := fun k => iv1 (b + 178) k) hO hn15 hbig (fun k _ => rfl) ⟨Nat.le_refl _, Nat.le_refl _⟩ hN) ?_
        rintro ⟨v, S, zz⟩ ⟨e1, lv', e2⟩
        cases e2
        dsimp only at e1
        refine ⟨⟨fun _ => ?_, fun q => absurd h1 q⟩, K, iv1, rv, lv', rfl, hLa, f1.mo (fun a h => by omega), Nat.le_refl _⟩
        rw [hc, e1, ← hgn]
        exact ord_ans hok hs h16 g1
      · have hlt : wn < 2 ^ n := by omega
        have hdbl : 2 * wn ≤ 2 ^ n := by
          rw [hew] at hlt ⊢
          have he : ew < n := by
            rcases Nat.lt_or_ge ew n with q | q
            · exact q
            · have := Nat.pow_le_pow_right (n := 2) (by decide) q; omega
          have := Nat.pow_le_pow_right (n := 2) (by decide) (show ew + 1 ≤ n by omega)
          rw [Nat.pow_succ] at this
          omega
        refine ⟨1, 2 ^ n, z, 2 ^ n, ?_, ⟨n, rfl⟩, by omega, by omega⟩
        refine pre 1 (2 ^ n) _ (fun iv1 f1 g1 => ?_)
        refine zw.e (zgr_at hO.1 hO.2.1.1) ?_
        refine zw.e (zln_at hO.2.1.2) ?_
        refine zw.f (nI_ge hlt (by omega)) ?_
        refine zw.e (zlg_nI (by omega)) ?_
        refine zw.e (show zbud 1 (2 ^ n) 0 0 1 (2 ^ n) = some () from if_pos ⟨by omega, by omega⟩) ?_
        unfold zlet zad
        have hL2 := hLa.al hz hp
        have ekk : (fun a => if a = z then some (10, 2 ^ n) else K a) (b + 176) = some (3, 0) := by
          dsimp only
          rw [if_neg (by omega)]
          exact hO.1
        refine zw.e (zpr_at ekk) ?_
        have hO2 := hL2.2.2.2.2.2.2.2.1
        refine zw.imp (c_allSets (nd := fun k => iv1 (b + 178) k) hO2 hn15 (Nat.le_refl _) (fun k _ => ?_) ⟨by omega, by omega⟩ hN) ?_
        · show zro iv1 z (fun _ => 0) (b + 178) k = _
          unfold zro
          rw [if_neg (by omega)]
        · rintro ⟨v, S, zz⟩ ⟨e1, lv', e2⟩
          cases e2
          dsimp only at e1
          refine ⟨⟨fun _ => ?_, fun q => absurd h1 q⟩, _, _, _, lv', rfl, hL2, ?_, Nat.le_succ _⟩
          · rw [hc, e1, ← hgn]
            exact ord_ans hok hs h16 g1
          · exact (f1.mo (fun a h => by omega)).ro (Or.inr (Or.inr rfl)) _
    · refine ⟨0, 0, wa, wn, ?_, ⟨ew, hew⟩, by omega, by omega⟩
      have hb0 : zbud 0 0 0 0 0 0 = some () := if_pos ⟨Nat.zero_le _, Nat.zero_le _⟩
      unfold fX7_orders fX7_orders_0
      refine zw.e hb0 ?_
      refine zw.e (zrc_at hC.1) ?_
      refine zw.e2 (c_isStep hC hPl hP.1) ?_
      rw [if_pos h1]
      refine zw.f (by decide) ?_
      refine zw.e (zgr_at hC.1 hC.2.2.1) ?_
      refine zw.e (zgr_at hPl.1 hPl.r_used) ?_
      refine zw.e (zil_v hPl.k_used rfl (by omega) (by decide) rfl) ?_
      refine zw.e hb0 ?_
      refine zw.e2 j_bitCount ?_
      rw [hbc]
      have hle := fb_ct_le (usd ins s) (s + 1)
      refine zw.f (nI_ge (show 16 < fb_ct (usd ins s) (s + 1) by omega) (by omega)) ?_
      refine zw.s (show _ ∧ _ from ⟨⟨fun _ => ?_, fun q => absurd h1 q⟩, K, iv, rv, lv, rfl, hLa, fQ.rf, Nat.le_refl _⟩)
      rw [hc]
      exact ⟨fun _ => rfl, fun q => absurd q h16⟩
  · refine ⟨0, 0, wa, wn, ?_, ⟨ew, hew⟩, by omega, by omega⟩
    have hb0 : zbud 0 0 0 0 0 0 = some () := if_pos ⟨Nat.zero_le _, Nat.zero_le _⟩
    unfold fX7_orders fX7_orders_0
    refine zw.e hb0 ?_
    refine zw.e (zrc_at hC.1) ?_
    refine zw.e2 (c_isStep hC hPl hP.1) ?_
    rw [if_neg h1]
    refine zw.t rfl ?_
    exact zw.s (show _ ∧ _ from ⟨⟨fun q => absurd q h1, fun _ => rfl⟩, K, iv, rv, lv, rfl, hLa, fQ.rf, Nat.le_refl _⟩)
end C15
