/-! the class: forge, trust, heirs, count, change -/
section C12
variable {N b : Nat} {K : Nat → Option (Nat × Nat)} {iv : Nat → Nat → Int32} {rv : Nat → Nat → Option Nat} {lv : Nat → Nat → Int64} {S : zS}
variable {mb : Nat → Option Nat} {mf : Nat → Nat} {fg : Nat → Bool} {tp : List Int32} {nt : Nat} {tx : Nat → List Int32} {lk : Nat → Bool} {ns : Nat} {tl : Nat → Nat} {pa : Nat → Int32} {pb : Nat → Nat} {ins : Nat → List Nat}
theorem c_forge {x y : Int32} (hC : cTop b K rv) (hL : cMak b K rv) (hM : cM b iv mb mf fg) :
    zw (fX7_forge N (K, iv, rv, lv) b x y) (fun q => ∃ iv', q.2 = (K, iv', rv, lv) ∧ fQ (aMak b) iv iv' ∧ ((inR 30 x ∧ inR 2 y) → q.1 = (if fg x.toNatClampNeg then 1 else 0) ∧ cM b iv' mb mf (upB fg x.toNatClampNeg (decide (y = 1)))) ∧ (¬ (inR 30 x ∧ inR 2 y) → q.1 = -1 ∧ cM b iv' mb mf fg)) := by
  unfold fX7_forge fX7_forge_0 fX7_forge_14
  refine zw.e2 c_isMaker ?_
  by_cases h1 : inR 30 x
  · rw [if_pos h1]
    refine zw.f (by decide) ?_
    refine zw.e2 c_isBit ?_
    by_cases h2 : inR 2 y
    · rw [if_pos h2]
      refine zw.f (by decide) ?_
      obtain ⟨m, hm, rfl⟩ := h1.at (by decide)
      refine zw.e (zgr_at hC.1 hC.r_mak) ?_
      refine zw.e (zgi_at hL.1) ?_
      unfold zlet
      refine zw.e (zgr_at hC.1 hC.r_mak) ?_
      refine zw.e (zgr_at hC.1 hC.r_mak) ?_
      refine zw.e (zgi_at hL.1) ?_
      unfold fX7_withBit fX7_withBit_0
      refine zw.e2 rfl ?_
      refine zw.e (zpi_at hL.1) ?_
      refine zw.s ⟨_, rfl, fQ.rf.put ⟨by omega, by omega⟩ _ _, fun _ => ?_, fun q => absurd ⟨h1, h2⟩ q⟩
      rw [nI_clamp (show m < 2 ^ 31 by omega)]
      refine ⟨?_, fun j hj => by rw [zu_o (by omega), zu_o (by omega)]; exact hM.1 j hj, ?_⟩
      · have := zush_1 hM.2 (show m < 32 by omega)
        rw [decide_eq_true hm, Bool.true_and] at this
        exact this
      · rw [zu_s]
        have := with_bit hM.2 (show m < 32 by omega) h2
        intro i hi
        rw [this i hi]
        show _ = (decide (i < 30) && upB fg m (decide (y = 1)) i)
        by_cases e : i = m
        · rw [e, upB_eq, upB_eq, decide_eq_true hm, Bool.true_and]
        · rw [upB_ne e, upB_ne e]
    · rw [if_neg h2]
      exact zw.t rfl (zw.s ⟨iv, rfl, fQ.rf, fun q => absurd q.2 h2, fun _ => ⟨rfl, hM⟩⟩)
  · rw [if_neg h1]
    exact zw.t rfl (zw.s ⟨iv, rfl, fQ.rf, fun q => absurd q.1 h1, fun _ => ⟨rfl, hM⟩⟩)
theorem c_trust {x : Int32} (hC : cTop b K rv) (hL : cMak b K rv) (hM : cM b iv mb mf fg) (hd : dM mb mf) (hN : 100 < N) : zw (fX7_trust N (K, iv, rv, lv) b x) (fun q => q.1 = (if inR 30 x then spTrust mb fg x.toNatClampNeg else -1) ∧ q.2 = (K, iv, rv, lv)) := by
  unfold fX7_trust fX7_trust_0 fX7_trust_33
  refine zw.e2 c_isMaker ?_
  by_cases h1 : inR 30 x
  · rw [if_pos h1, if_pos h1]
    refine zw.f (by decide) ?_
    obtain ⟨m, hm, rfl⟩ := h1.at (by decide)
    rw [nI_clamp (show m < 2 ^ 31 by omega)]
    refine zw.e (zgr_at hC.1 hC.r_mak) ?_
    refine zw.e (zrc_at hL.1) ?_
    refine zw.c2 (c_way hL hM hd hm hN) ?_
    rintro v S ⟨rfl, hv⟩
    refine zw.e (zgr_at hC.1 hC.r_mak) ?_
    refine zw.e (zgi_at hL.1) ?_
    unfold spTrust
    by_cases hany : (List.range 30).any (fun k => wyS mb m (wyL mb m) k && fg k) = true
    · rw [if_pos hany]
      refine zw.f (fun q => ?_) (zw.s ⟨rfl, rfl⟩)
      rw [List.any_eq_true] at hany
      obtain ⟨k, hk, hb⟩ := hany
      rw [List.mem_range] at hk
      have h3 : bt (v &&& iv (b + 180) 2) k = false := by rw [q]; exact b_0 k
      rw [b_and, show bt v k = wyS mb m (wyL mb m) k from hv k (by omega), show bt (iv (b + 180) 2) k = (decide (k < 30) && fg k) from hM.2 k (by omega), decide_eq_true hk, Bool.true_and, hb] at h3
      cases h3
    · rw [if_neg hany]
      refine zw.t ?_ (zw.s ⟨rfl, rfl⟩)
      apply b_ext
      intro i hi
      rw [b_and, b_0, show bt v i = wyS mb m (wyL mb m) i from hv i hi, hM.2 i hi]
      dsimp only
      by_cases h30 : i < 30
      · rw [decide_eq_true h30, Bool.true_and, Bool.eq_false_iff]
        intro q
        exact hany (List.any_eq_true.mpr ⟨i, List.mem_range.mpr h30, q⟩)
      · rw [decide_eq_false h30]
        simp
  · rw [if_neg h1, if_neg h1]
    exact zw.t rfl (zw.s ⟨rfl, rfl⟩)
theorem c_heirs {x : Int32} (hC : cTop b K rv) (hL : cMak b K rv) (hM : cM b iv mb mf fg) (hd : dM mb mf) (hN : 100 < N) : zw (fX7_heirs N (K, iv, rv, lv) b x) (fun q => q.1 = (if inR 30 x then spHeirs mb x.toNatClampNeg else -1) ∧ q.2 = (K, iv, rv, lv)) := by
  unfold fX7_heirs fX7_heirs_0
  refine zw.e2 c_isMaker ?_
  by_cases h1 : inR 30 x
  · rw [if_pos h1, if_pos h1]
    refine zw.f (by decide) ?_
    obtain ⟨m, hm, rfl⟩ := h1.at (by decide)
    rw [nI_clamp (show m < 2 ^ 31 by omega)]
    unfold lX7_heirs_13
    refine zw.loop (fun t y => ∃ k, k + t = 30 ∧ y = ((K, iv, rv, lv), b, nI m, nI (fb_ct (fun k => decide (k ≠ m) && wyS mb k (wyL mb k) m) k), nI k)) ?_ N 30 _ (by omega) ⟨0, by omega, rfl⟩
    rintro t ⟨S, x0, x1, x2, x3⟩ Kc ⟨k, hk, hy⟩ ih
    cases hy
    dsimp only
    unfold fX7_heirs_13 fX7_heirs_42
    by_cases ht : t = 0
    · have : k = 30 := by omega
      subst this
      exact zw.t (by decide) (zw.s ⟨rfl, rfl⟩)
    · refine zw.f (nI_ge (show k < 30 by omega) (by decide)) ?_
      have skip : (decide (k ≠ m) && wyS mb k (wyL mb k) m) = false → zw (Kc ((K, iv, rv, lv), b, nI m, nI (fb_ct (fun k => decide (k ≠ m) && wyS mb k (wyL mb k) m) k), nI k + 1)) (fun q => q.1 = spHeirs mb m ∧ q.2 = (K, iv, rv, lv)) := fun q => ih (t - 1) _ (by omega) ⟨k + 1, by omega, by rw [nI_1 k, fb_ct_succ, q]; rfl⟩
      by_cases e : k = m
      · exact zw.t (by rw [e]) (skip (by rw [decide_eq_false (fun q => q e)]; rfl))
      · refine zw.f (fun q => e ((nI_eq (by omega) (by omega)).mp q)) ?_
        refine zw.e (zgr_at hC.1 hC.r_mak) ?_
        refine zw.e (zrc_at hL.1) ?_
        refine zw.c2 (c_way hL hM hd (show k < 30 by omega) hN) ?_
        rintro v S ⟨rfl, hv⟩
        have hb : bt v m = wyS mb k (wyL mb k) m := hv m (by omega)
        by_cases hw : wyS mb k (wyL mb k) m = true
        · refine zw.f (fun q => by rw [ush_0 (by omega), hb, hw] at q; cases q) ?_
          refine ih (t - 1) _ (by omega) ⟨k + 1, by omega, ?_⟩
          have hyes : (decide (k ≠ m) && wyS mb k (wyL mb k) m) = true := by rw [hw, decide_eq_true e]; rfl
          rw [nI_1 k, fb_ct_succ, hyes, nI_1]
          rfl
        · refine zw.t ((ush_0 (by omega)).mpr (by rw [hb]; exact Bool.eq_false_iff.mpr hw)) (skip (by rw [Bool.eq_false_iff.mpr hw]; simp))
  · rw [if_neg h1, if_neg h1]
    exact zw.t rfl (zw.s ⟨rfl, rfl⟩)
theorem c_count {x : Int32} (hC : cTop b K rv) (hX : cTex b K rv) (hPl : cPla b K rv) (hL : cMak b K rv) (hT : cT b iv tp nt tx lk) (hdT : dT tp nt tx lk) (hP : cP b iv ns tl pa pb ins) (hM : cM b iv mb mf fg) (hd : dM mb mf) (hN : 100 < N) : zw (fX7_count N (K, iv, rv, lv) b x) (fun q => q = (spCount tp nt lk ns mb fg x, (K, iv, rv, lv))) := by
  unfold fX7_count fX7_count_0 spCount
  by_cases e0 : x = 0
  · refine zw.t e0 ?_
    rw [if_pos e0]
    refine zw.e (zgr_at hC.1 hC.2.1) ?_
    refine zw.e (zgi_v hX.1 hT.2.1) ?_
    exact zw.s rfl
  · refine zw.f e0 ?_
    rw [if_neg e0]
    by_cases e1 : x = 1
    · refine zw.t e1 ?_
      rw [if_pos e1]
      refine zw.e (zgr_at hC.1 hC.2.2.1) ?_
      refine zw.e (zgi_v hPl.1 hP.1) ?_
      exact zw.s rfl
    · refine zw.f e1 ?_
      rw [if_neg e1]
      by_cases e2 : x = 2
      · refine zw.t e2 ?_
        rw [if_pos e2]
        refine zw.e (zgr_at hC.1 hC.r_mak) ?_
        refine zw.e (zrc_at hL.1) ?_
        obtain ⟨l1, ⟨l2, l3⟩, l4, l5⟩ := hL
        have key : zw (fX2_seeds N (K, iv, rv, lv) (b + 180)) (fun q => q = (nI (fb_ct (fun m => (mb m).isNone) 30), (K, iv, rv, lv))) := by
          unfold fX2_seeds fX2_seeds_0 lX2_seeds_4
          refine zw.loop (fun t y => ∃ k, k + t = 30 ∧ y = ((K, iv, rv, lv), b + 180, nI (fb_ct (fun m => (mb m).isNone) k), nI k)) ?_ N 30 _ (by omega) ⟨0, by omega, rfl⟩
          rintro t ⟨S, x0, x1, x2⟩ Kc ⟨k, hk, hy⟩ ih
          cases hy
          dsimp only
          unfold fX2_seeds_4 fX2_seeds_26
          by_cases ht : t = 0
          · have : k = 30 := by omega
            subst this
            exact zw.t (by decide) (zw.s rfl)
          · have hk30 : k < 30 := by omega
            refine zw.f (nI_ge hk30 (by decide)) ?_
            refine zw.e (zgr_at l1 l2) ?_
            refine zw.e (zil_v l3 rfl hk30 (by decide) (hM.1 k hk30).1) ?_
            have hb := byV_1 (o := mb k) (hd k hk30).1
            by_cases e : mb k = none
            · refine zw.t (hb.mpr e) ?_
              refine ih (t - 1) _ (by omega) ⟨k + 1, by omega, ?_⟩
              rw [nI_1 k, fb_ct_succ, e]
              exact congrArg (fun z : Int32 => (((K, iv, rv, lv) : zS), b + 180, z, nI (k + 1))) (nI_add _ 1)
            · refine zw.f (fun q => e (hb.mp q)) ?_
              refine ih (t - 1) _ (by omega) ⟨k + 1, by omega, ?_⟩
              obtain ⟨c, hc⟩ := Option.ne_none_iff_exists'.mp e
              rw [nI_1 k, fb_ct_succ, hc]
              exact congrArg (fun z : Int32 => (((K, iv, rv, lv) : zS), b + 180, z, nI (k + 1))) (nI_add _ 0)
        refine zw.c2 key ?_
        intro v S e
        cases e
        exact zw.s rfl
      · refine zw.f e2 ?_
        rw [if_neg e2]
        by_cases e3 : x = 3
        · refine zw.t e3 ?_
          rw [if_pos e3]
          refine zw.e (zgr_at hC.1 hC.r_mak) ?_
          refine zw.e (zgi_at hL.1) ?_
          refine zw.e2 j_bitCount ?_
          refine zw.s ?_
          rw [hM.2.bC]
          have h1 := fb_ct_split (fun m => decide (m < 30) && fg m) 30 2
          have h2 : fb_ct (fun k => decide (30 + k < 30) && fg (30 + k)) 2 = 0 := fb_ct_zero.mpr fun k _ => by rw [decide_eq_false (by omega)]; rfl
          rw [show (30 : Nat) + 2 = 32 from rfl] at h1
          rw [h1, h2, Nat.add_zero, fb_ct_cong (q := fg) (fun k hk => by rw [decide_eq_true hk]; rfl)]
        · refine zw.f e3 ?_
          rw [if_neg e3]
          by_cases e4 : x = 4
          · refine zw.t e4 ?_
            rw [if_pos e4]
            refine zw.e (zgr_at hC.1 hC.2.1) ?_
            refine zw.e (zgr_at hX.1 hX.2.1) ?_
            refine zw.e (zgi_v hX.2.2.2.1.1 hT.1.1) ?_
            exact zw.s rfl
          · refine zw.f e4 ?_
            rw [if_neg e4]
            by_cases e5 : x = 5
            · refine zw.t e5 ?_
              rw [if_pos e5]
              refine zw.e (zgr_at hC.1 hC.2.1) ?_
              refine zw.e (zgi_at hX.1) ?_
              refine zw.e2 j_bitCount ?_
              refine zw.s ?_
              have hn := hdT.2.1
              rw [hT.2.2.1.bC]
              have h1 := fb_ct_split lk nt (32 - nt)
              have h2 : fb_ct (fun k => lk (nt + k)) (32 - nt) = 0 := fb_ct_zero.mpr fun k _ => hdT.2.2.2.1 _ (by omega)
              rw [show nt + (32 - nt) = 32 by omega] at h1
              rw [h1, h2, Nat.add_zero]
            · exact zw.f e5 (zw.s (by rw [if_neg e5]))
/-- the class's last changes -/
def cC (b : Nat) (iv : Nat → Nat → Int32) (ch : List (Int32 × Int32 × Int32)) : Prop :=
  iv (b + 169) 6 = nI ch.length ∧ ∀ i, i < ch.length → iv (b + 170) i = (ch.getD i (0, 0, 0)).1 ∧ iv (b + 171) i = (ch.getD i (0, 0, 0)).2.1 ∧ iv (b + 172) i = (ch.getD i (0, 0, 0)).2.2
variable {ch : List (Int32 × Int32 × Int32)} {l1 l2 : Nat}
theorem cC.fr {iv' : Nat → Nat → Int32} {A : Nat → Prop} (h : cC b iv ch) (hf : fQ A iv iv') (hA : ∀ a, b + 169 ≤ a → a < b + 173 → ¬ A a) : cC b iv' ch :=
  ⟨by rw [hf _ _ (hA _ (by omega) (by omega))]; exact h.1, fun i hi => by rw [hf _ _ (hA _ (by omega) (by omega)), hf _ _ (hA _ (by omega) (by omega)), hf _ _ (hA _ (by omega) (by omega))]; exact h.2 i hi⟩
theorem cTop.r_ali (hC : cTop b K rv) : rv b 5 = some (b + 169) := hC.2.2.2.2.2.2.1
theorem c_change {x y : Int32} (hC : cTop b K rv) (hL : cAli b l1 l2 K rv) (hc : cC b iv ch) (hl : ch.length ≤ 200) : zw (fX7_change N (K, iv, rv, lv) b x y) (fun q => q = (spChange ch x y, (K, iv, rv, lv))) := by
  unfold fX7_change fX7_change_0 fX7_change_24 fX7_change_66
  have bad : ¬ (inR ch.length x ∧ inR 3 y) → zw (some ((-1 : Int32), ((K, iv, rv, lv) : zS))) (fun q => q = (spChange ch x y, (K, iv, rv, lv))) := fun q => zw.s (by unfold spChange; rw [if_neg q])
  have i3 : ∀ {z : Int32}, (¬ z < 0 ∧ ¬ (2 : Int32) < z) ↔ inR 3 z := in_lit (n := 2) (by decide)
  refine zw.it (fun c => bad fun q => q.1.1 c) (fun c1 => ?_)
  refine zw.e (zgr_at hC.1 hC.r_ali) ?_
  refine zw.e (zgi_v hL.1 hc.1) ?_
  refine zw.it (fun c => bad fun q => Int32.not_lt.mpr c q.1.2) (fun c2 => ?_)
  refine zw.it (fun c => bad fun q => q.2.1 c) (fun c3 => ?_)
  refine zw.it (fun c4 => ?_) (fun c => bad fun q => (i3.mpr q.2).2 (Int32.not_le.mp c))
  have h1 : inR ch.length x := ⟨c1, Int32.not_le.mp c2⟩
  have h2 : inR 3 y := i3.mp ⟨c3, Int32.not_lt.mpr c4⟩
  obtain ⟨i, hi, rfl⟩ := h1.at (by omega)
  have hs : spChange ch (nI i) y = if y = 0 then (ch.getD i (0, 0, 0)).1 else if y = 1 then (ch.getD i (0, 0, 0)).2.1 else (ch.getD i (0, 0, 0)).2.2 := by
    unfold spChange
    rw [if_pos ⟨h1, h2⟩, nI_clamp (show i < 2 ^ 31 by omega)]
  rw [hs]
  obtain ⟨g1, g2, g3⟩ := hc.2 i hi
  refine zw.it (fun c => ?_) (fun c => zw.it (fun c5 => ?_) (fun c5 => ?_))
  · rw [if_pos c]
    refine zw.e (zgr_at hC.1 hC.r_ali) ?_
    refine zw.e (zgr_at hL.1 hL.2.1.1) ?_
    refine zw.e (zil_v hL.2.1.2 rfl (by omega) (by decide) g1) ?_
    exact zw.s rfl
  · rw [if_neg c, if_pos c5]
    refine zw.e (zgr_at hC.1 hC.r_ali) ?_
    refine zw.e (zgr_at hL.1 hL.2.2.1.1) ?_
    refine zw.e (zil_v hL.2.2.1.2 rfl (by omega) (by decide) g2) ?_
    exact zw.s rfl
  · rw [if_neg c, if_neg c5]
    refine zw.e (zgr_at hC.1 hC.r_ali) ?_
    refine zw.e (zgr_at hL.1 hL.2.2.2.1.1) ?_
    refine zw.e (zil_v hL.2.2.2.1.2 rfl (by omega) (by decide) g3) ?_
    exact zw.s rfl
end C12
