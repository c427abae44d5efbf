/-! the class: made .. breaks -/
section C7
variable {N b B : Nat} {K : Nat → Option (Nat × Nat)} {iv : Nat → Nat → Int32} {rv : Nat → Nat → Option Nat} {lv : Nat → Nat → Int64} {S : zS}
variable {tp : List Int32} {nt : Nat} {tx : Nat → List Int32} {lk : Nat → Bool} {ns : Nat} {tl : Nat → Nat} {pa : Nat → Int32} {pb : Nat → Nat} {ins : Nat → List Nat} {h : Nat → Int32} {wd : Nat → Nat → Int32}
theorem cthg_good (hA : cA b iv tp nt tx lk ns tl pa pb ins wd) {h : Nat → Int32} (hh : ∀ w, w < 8 → isB (h w)) {s : Nat} (hs : s < ns) {L : List Int32} (e : thg tx lk tl pa pb ins h s = some L) : gT L := tab_good hA.2.2.2.1 hA.2.2.2.2.1 hh (s + 1) hs s L e
theorem cA.us (hA : cA b iv tp nt tx lk ns tl pa pb ins wd) {s : Nat} (hs : s < ns) : usd ins s s = true := usd_self (hA.2.2.2.2.1.ok hA.2.2.2.1.2.1) hs
/-- the first build, of a room -/
theorem c_m1 {α : Type} {P : α → Prop} {r s : Nat} {F : zS → Option α} (hG : cG b K rv) (hA : cA b iv tp nt tx lk ns tl pa pb ins wd) (hr : r < 8) (hs : s < ns) (hN : 600 < N)
    (k : ∀ iv', fQ (aTwo b) iv iv' → cA b iv' tp nt tx lk ns tl pa pb ins wd → (∀ j, j < ns → usd ins s j = true → cS (b + 63) iv' j (thg tx lk tl pa pb ins (wd r) j)) → zw (F (K, iv', rv, lv)) P) :
    zw ((zgr (K, iv, rv, lv) b 7 3).bind fun v6 => (zgr (K, iv, rv, lv) b 7 2).bind fun v7 => (zal (K, iv, rv, lv) v7 13 (nI r)).bind fun v8 => (zrc (K, iv, rv, lv) v6 1).bind fun _ => (fX1_makeIn N (K, iv, rv, lv) v6 v8 (nI s)).bind F) P := by
  obtain ⟨hC, hX, hL, hWo, hB1, hB2⟩ := id hG
  refine zw.e (zgr_at hC.1 hC.2.2.2.2.1) ?_
  refine zw.e (zgr_at hC.1 hC.2.2.2.1) ?_
  refine zw.e (zal_at hWo.1 hr (by decide) (hWo.2 r hr).1) ?_
  refine zw.e (zrc_at hB1.1) ?_
  refine zw.c (c_makeIn hG hB1 (by omega) hA hr hs hN) ?_
  rintro S ⟨iv1, rfl, f1, g1, g2⟩
  have f1' : fQ (aTwo b) iv iv1 := f1.mo (fun a h => by omega)
  exact k iv1 f1' (hA.fr f1' (fun a h1 h2 => by omega)) g2
theorem c_made {x y : Int32} (hG : cG b K rv) (hA : cA b iv tp nt tx lk ns tl pa pb ins wd) (hN : 600 < N) :
    zw (fX7_made N (K, iv, rv, lv) b x y) (fun q => q.1 = (if inR 8 x ∧ inR ns y then spMade (thg tx lk tl pa pb ins (wd x.toNatClampNeg) y.toNatClampNeg) else -1) ∧ ∃ iv', q.2 = (K, iv', rv, lv) ∧ fQ (aTwo b) iv iv') := by
  have hn := hA.2.2.2.2.1.1
  obtain ⟨hC, hX, hL, hWo, hB1, hB2⟩ := id hG
  unfold fX7_made fX7_made_0 fX7_made_15 fX7_made_60
  refine zw.e2 c_isRoom ?_
  by_cases h1 : inR 8 x
  · rw [if_pos h1]
    refine zw.f (by decide) ?_
    refine zw.e (zrc_at hC.1) ?_
    refine zw.e2 (c_isStep hC hL hA.2.1.1) ?_
    by_cases h2 : inR ns y
    · rw [if_pos h2, if_pos (show inR 8 x ∧ inR ns y from ⟨h1, h2⟩)]
      refine zw.f (by decide) ?_
      obtain ⟨r, hr, rfl⟩ := h1.at (by decide)
      obtain ⟨s, hs, rfl⟩ := h2.at (by omega)
      rw [nI_clamp (show r < 2 ^ 31 by omega), nI_clamp (show s < 2 ^ 31 by omega)]
      refine c_m1 hG hA hr hs hN (fun iv1 f1 hA1 g1 => ?_)
      have hc := g1 s hs (hA.us hs)
      obtain ⟨u1, u2, u3, u4, u5, u6, u7, u8⟩ := id hB1
      refine zw.e (zgr_at hC.1 hC.2.2.2.2.1) ?_
      refine zw.e (zgr_at u1 u6.1) ?_
      refine zw.e (zzl_v u6.2 rfl (by omega) (by decide) hc.fl) ?_
      cases ho : thg tx lk tl pa pb ins (wd r) s with
      | none => exact zw.f (by rw [if_pos rfl]; decide) (zw.s ⟨rfl, iv1, rfl, f1⟩)
      | some L =>
        rw [ho] at hc
        refine zw.t (by rw [if_neg (fun q => by cases q)]) ?_
        obtain ⟨a1, a2⟩ := u8 s (by omega)
        refine zw.e (zgr_at hC.1 hC.2.2.2.2.1) ?_
        refine zw.e (zgr_at u1 u5.1) ?_
        refine zw.e (zal_at u5.2 (by omega) (by decide) a1) ?_
        refine zw.e (zgi_v a2.1 hc.2.1) ?_
        exact zw.s ⟨rfl, iv1, rfl, f1⟩
    · rw [if_neg h2, if_neg (show ¬ (inR 8 x ∧ inR ns y) from fun q => h2 q.2)]
      exact zw.t rfl (zw.s ⟨rfl, iv, rfl, fQ.rf⟩)
  · rw [if_neg h1, if_neg (show ¬ (inR 8 x ∧ inR ns y) from fun q => h1 q.1)]
    exact zw.t rfl (zw.s ⟨rfl, iv, rfl, fQ.rf⟩)
theorem c_at {x y v : Int32} (hG : cG b K rv) (hA : cA b iv tp nt tx lk ns tl pa pb ins wd) (hN : 600 < N) :
    zw (fX7_at N (K, iv, rv, lv) b x y v) (fun q => q.1 = (if inR 8 x ∧ inR ns y ∧ inR 200 v then spAt (thg tx lk tl pa pb ins (wd x.toNatClampNeg) y.toNatClampNeg) v.toNatClampNeg else -1) ∧ ∃ iv', q.2 = (K, iv', rv, lv) ∧ fQ (aTwo b) iv iv') := by
  have hn := hA.2.2.2.2.1.1
  obtain ⟨hC, hX, hL, hWo, hB1, hB2⟩ := id hG
  unfold fX7_at fX7_at_0 fX7_at_26 fX7_at_88
  refine zw.e2 c_isRoom ?_
  have bad : ¬ (inR 8 x ∧ inR ns y ∧ inR 200 v) → zw (some ((-1 : Int32), ((K, iv, rv, lv) : zS))) (fun q => q.1 = (if inR 8 x ∧ inR ns y ∧ inR 200 v then spAt (thg tx lk tl pa pb ins (wd x.toNatClampNeg) y.toNatClampNeg) v.toNatClampNeg else -1) ∧ ∃ iv', q.2 = (K, iv', rv, lv) ∧ fQ (aTwo b) iv iv') := fun q => zw.s ⟨by rw [if_neg q], iv, rfl, fQ.rf⟩
  by_cases h1 : inR 8 x
  · rw [if_pos h1]
    refine zw.f (by decide) ?_
    refine zw.e (zrc_at hC.1) ?_
    refine zw.e2 (c_isStep hC hL hA.2.1.1) ?_
    by_cases h2 : inR ns y
    · rw [if_pos h2]
      refine zw.f (by decide) ?_
      refine zw.it (fun c => bad fun q => q.2.2.1 c) (fun c1 => ?_)
      refine zw.it (fun c2 => ?_) (fun c => bad fun q => c q.2.2.2)
      have h3 : inR 200 v := ⟨c1, c2⟩
      rw [if_pos (show inR 8 x ∧ inR ns y ∧ inR 200 v from ⟨h1, h2, h3⟩)]
      obtain ⟨r, hr, rfl⟩ := h1.at (by decide)
      obtain ⟨s, hs, rfl⟩ := h2.at (by omega)
      obtain ⟨k, hk, rfl⟩ := h3.at (by decide)
      rw [nI_clamp (show r < 2 ^ 31 by omega), nI_clamp (show s < 2 ^ 31 by omega), nI_clamp (show k < 2 ^ 31 by omega)]
      refine c_m1 hG hA hr hs hN (fun iv1 f1 hA1 g1 => ?_)
      have hc := g1 s hs (hA.us hs)
      obtain ⟨u1, u2, u3, u4, u5, u6, u7, u8⟩ := id hB1
      refine zw.e (zgr_at hC.1 hC.2.2.2.2.1) ?_
      refine zw.e (zgr_at u1 u6.1) ?_
      refine zw.e (zzl_v u6.2 rfl (by omega) (by decide) hc.fl) ?_
      cases ho : thg tx lk tl pa pb ins (wd r) s with
      | none => exact zw.f (by rw [if_pos rfl]; decide) (zw.s ⟨rfl, iv1, rfl, f1⟩)
      | some L =>
        rw [ho] at hc
        have hl := (cthg_good hA (fun w hw => hA.2.2.2.2.2 r w hr hw) hs ho).1
        refine zw.t (by rw [if_neg (fun q => by cases q)]) ?_
        obtain ⟨a1, a2⟩ := u8 s (by omega)
        refine zw.e (zgr_at hC.1 hC.2.2.2.2.1) ?_
        refine zw.e (zgr_at u1 u5.1) ?_
        refine zw.e (zal_at u5.2 (by omega) (by decide) a1) ?_
        refine zw.e (zgi_v a2.1 hc.2.1) ?_
        unfold spAt
        by_cases hkl : k < L.length
        · refine zw.f (nI_ge hkl (by omega)) ?_
          refine zw.e (zgr_at a2.1 a2.2.1) ?_
          refine zw.e (zib_v a2.2.2 rfl hk (by decide) hc.2.1 hkl (by omega) (hc.2.at hkl)) ?_
          exact zw.s ⟨by simp [hkl], iv1, rfl, f1⟩
        · refine zw.t (nI_le (by omega) (by omega)) (zw.s ⟨by simp [hkl], iv1, rfl, f1⟩)
    · rw [if_neg h2]
      exact zw.t rfl (bad fun q => h2 q.2.1)
  · rw [if_neg h1]
    exact zw.t rfl (bad fun q => h1 q.1)
/-- steps beyond the last of a set read nothing of it -/
theorem rdS_cut {th : Nat → Option (List Int32)} {tl pb : Nat → Nat} {U : Nat → Bool} {n m : Nat} (hnm : n ≤ m) (hU : ∀ k, n ≤ k → k < m → U k = false) (w : Nat) : rdS th tl pb U m w = rdS th tl pb U n w := by
  induction m with
  | zero => rw [show n = 0 by omega]
  | succ m ih =>
    by_cases e : n = m + 1
    · rw [e]
    · rw [rdS_s, hU m (by omega) (by omega), ih (by omega) (fun k h1 h2 => hU k h1 (by omega))]
      simp
theorem rdU_out (hok : okP nt ns ins) {s : Nat} (hs : s < ns) (all : Bool) : ∀ k, s + 1 ≤ k → k < ns → rdU ins s all k = false := by
  intro k h1 h2
  unfold rdU
  cases all with
  | true =>
    rw [if_pos rfl, Bool.eq_false_iff]
    intro q
    have := usd_le hok s hs k q
    omega
  | false =>
    rw [if_neg (by decide), decide_eq_false (by omega)]
theorem c_reads {x y v : Int32} (hG : cG b K rv) (hA : cA b iv tp nt tx lk ns tl pa pb ins wd) (hN : 600 < N) :
    zw (fX7_reads N (K, iv, rv, lv) b x y v) (fun q => q.1 = (if inR 8 x ∧ inR ns y ∧ inR 2 v then ofS (rdS (thg tx lk tl pa pb ins (wd x.toNatClampNeg)) tl pb (rdU ins y.toNatClampNeg (decide (v = 1))) (y.toNatClampNeg + 1)) else -1) ∧ ∃ iv', q.2 = (K, iv', rv, lv) ∧ fQ (aTwo b) iv iv') := by
  have hn := hA.2.2.2.2.1.1
  have hok := hA.2.2.2.2.1.ok hA.2.2.2.1.2.1
  obtain ⟨hC, hX, hL, hWo, hB1, hB2⟩ := id hG
  unfold fX7_reads fX7_reads_0 fX7_reads_22
  refine zw.e2 c_isRoom ?_
  have bad : ¬ (inR 8 x ∧ inR ns y ∧ inR 2 v) → zw (some ((-1 : Int32), ((K, iv, rv, lv) : zS))) (fun q => q.1 = (if inR 8 x ∧ inR ns y ∧ inR 2 v then ofS (rdS (thg tx lk tl pa pb ins (wd x.toNatClampNeg)) tl pb (rdU ins y.toNatClampNeg (decide (v = 1))) (y.toNatClampNeg + 1)) else -1) ∧ ∃ iv', q.2 = (K, iv', rv, lv) ∧ fQ (aTwo b) iv iv') := fun q => zw.s ⟨by rw [if_neg q], iv, rfl, fQ.rf⟩
  by_cases h1 : inR 8 x
  · rw [if_pos h1]
    refine zw.f (by decide) ?_
    refine zw.e (zrc_at hC.1) ?_
    refine zw.e2 (c_isStep hC hL hA.2.1.1) ?_
    by_cases h2 : inR ns y
    · rw [if_pos h2]
      refine zw.f (by decide) ?_
      refine zw.e2 c_isBit ?_
      by_cases h3 : inR 2 v
      · rw [if_pos h3, if_pos (show inR 8 x ∧ inR ns y ∧ inR 2 v from ⟨h1, h2, h3⟩)]
        refine zw.f (by decide) ?_
        obtain ⟨r, hr, rfl⟩ := h1.at (by decide)
        obtain ⟨s, hs, rfl⟩ := h2.at (by omega)
        rw [nI_clamp (show r < 2 ^ 31 by omega), nI_clamp (show s < 2 ^ 31 by omega)]
        refine c_m1 hG hA hr hs hN (fun iv1 f1 hA1 g1 => ?_)
        refine zw.e (zgr_at hC.1 hC.2.2.2.2.1) ?_
        have fin : ∀ z : Int32, isS z (rdU ins s (decide (v = 1))) → zw (fX7_reads_61 N (K, iv1, rv, lv) (b + 63) z) (fun q => q.1 = ofS (rdS (thg tx lk tl pa pb ins (wd r)) tl pb (rdU ins s (decide (v = 1))) (s + 1)) ∧ ∃ iv', q.2 = (K, iv', rv, lv) ∧ fQ (aTwo b) iv iv') := by
          intro z hz
          unfold fX7_reads_61
          refine zw.e (zrc_at hB1.1) ?_
          refine zw.c2 (c_wordsRead (th := thg tx lk tl pa pb ins (wd r)) hB1 hL hA1.2.1 hA1.2.2.2.2.1 hz (fun k h1 h2 => g1 k h1 ?_) (by omega)) ?_
          · unfold rdU at h2
            split at h2
            · exact h2
            · rw [decide_eq_true_eq] at h2; rw [h2]; exact hA.us hs
          · intro q S e
            cases e
            exact zw.s ⟨ofS_cong fun i hi => rdS_cut (by omega) (rdU_out hok hs _) i, iv1, rfl, f1⟩
        rcases inR2 h3 with rfl | rfl
        · refine zw.t rfl (fin _ fun i hi => ?_)
          rw [bt_one (by omega) hi]
          rfl
        · refine zw.f (by decide) ?_
          refine zw.e (zgr_at hC.1 hC.2.2.1) ?_
          refine zw.e (zgr_at hL.1 hL.r_used) ?_
          refine zw.e (zil_v hL.k_used rfl (by omega) (by decide) rfl) ?_
          exact fin _ (hA1.2.1.2.2.2.2.2.2.1 s hs)
      · rw [if_neg h3]
        exact zw.t rfl (bad fun q => h3 q.2.2)
    · rw [if_neg h2]
      exact zw.t rfl (bad fun q => h2 q.2.1)
  · rw [if_neg h1]
    exact zw.t rfl (bad fun q => h1 q.1)
theorem c_built {x : Int32} (hG : cG b K rv) (hA : cA b iv tp nt tx lk ns tl pa pb ins wd) (hN : 600 < N) :
    zw (fX7_built N (K, iv, rv, lv) b x) (fun q => q.1 = (if inR 8 x then nI (fb_ct (fun s => (thg tx lk tl pa pb ins (wd x.toNatClampNeg) s).isSome) ns) else -1) ∧ ∃ iv', q.2 = (K, iv', rv, lv) ∧ fQ (aTwo b) iv iv') := by
  have hn := hA.2.2.2.2.1.1
  obtain ⟨hC, hX, hL, hWo, hB1, hB2⟩ := id hG
  obtain ⟨hT, hP, hW, hdT, hdP, hdW⟩ := id hA
  unfold fX7_built fX7_built_0
  refine zw.e2 c_isRoom ?_
  by_cases h1 : inR 8 x
  · rw [if_pos h1, if_pos h1]
    refine zw.f (by decide) ?_
    obtain ⟨r, hr, rfl⟩ := h1.at (by decide)
    rw [nI_clamp (show r < 2 ^ 31 by omega)]
    refine zw.e (zgr_at hC.1 hC.2.2.2.2.1) ?_
    refine zw.e (zgr_at hC.1 hC.2.2.2.1) ?_
    refine zw.e (zal_at hWo.1 hr (by decide) (hWo.2 r hr).1) ?_
    refine zw.e (zrc_at hB1.1) ?_
    refine zw.c (c_open hB1 (by omega) hWo hW hr) ?_
    rintro S ⟨iv1, rfl, f1, g1, g2⟩
    have hA1 := hA.fr f1 (fun a h1 h2 => by omega)
    refine zw.e (zgr_at hC.1 hC.2.2.2.2.1) ?_
    refine zw.e (zrc_at hB1.1) ?_
    refine zw.c (c_make (U := fun _ => true) (x := -1) (by omega) hL hX hB1 hA1.1 hdT hA1.2.1 hdP g1 (fun w hw => hdW r w hr hw) (fun i hi => m1_bit hi) (fun _ _ _ _ _ => rfl) (fun k h1 h2 h3 => ?_) hN) ?_
    · rw [g2, m1_bit (by omega)] at h3; cases h3
    · rintro S ⟨iv2, rfl, f2, g3⟩
      have hA2 := hA1.fr f2 (fun a h1 h2 => by omega)
      obtain ⟨u1, u2, u3, u4, u5, u6, u7, u8⟩ := id hB1
      unfold lX7_built_34
      refine zw.loop (fun m y => ∃ k, k + m = ns ∧ y = ((K, iv2, rv, lv), b, nI (fb_ct (fun s => (thg tx lk tl pa pb ins (wd r) s).isSome) k), nI k)) ?_ N ns _ (by omega) ⟨0, by omega, rfl⟩
      rintro m ⟨S, x0, x1, x2⟩ Kc ⟨k, hk, hy⟩ ih
      cases hy
      dsimp only
      unfold fX7_built_34 fX7_built_63
      refine zw.e (zgr_at hC.1 hC.2.2.1) ?_
      refine zw.e (zgi_v hL.1 hA2.2.1.1) ?_
      by_cases hm : m = 0
      · refine zw.t (nI_le (by omega) (by omega)) (zw.s ⟨by rw [show ns = k by omega], iv2, rfl, (f1.mo (fun a h => by omega)).tr (f2.mo (fun a h => by omega))⟩)
      · refine zw.f (nI_ge (show k < ns by omega) (by omega)) ?_
        refine zw.e (zgr_at hC.1 hC.2.2.2.2.1) ?_
        refine zw.e (zgr_at u1 u6.1) ?_
        refine zw.e (zzl_v u6.2 rfl (by omega) (by decide) (g3 k (by omega) rfl).fl) ?_
        cases ho : thg tx lk tl pa pb ins (wd r) k with
        | none =>
          refine zw.f (by rw [if_pos rfl]; decide) ?_
          refine ih (m - 1) _ (by omega) ⟨k + 1, by omega, ?_⟩
          rw [nI_1 k, fb_ct_succ, ho]
          exact congrArg (fun z : Int32 => (((K, iv2, rv, lv) : zS), b, z, nI (k + 1))) (nI_add _ 0)
        | some L =>
          refine zw.t (by rw [if_neg (fun q => by cases q)]) ?_
          refine ih (m - 1) _ (by omega) ⟨k + 1, by omega, ?_⟩
          rw [nI_1 k, fb_ct_succ, ho]
          exact congrArg (fun z : Int32 => (((K, iv2, rv, lv) : zS), b, z, nI (k + 1))) (nI_add _ 1)
  · rw [if_neg h1, if_neg h1]
    exact zw.t rfl (zw.s ⟨rfl, iv, rfl, fQ.rf⟩)
/-- both builds -/
theorem c_both {p q s : Nat} (hG : cG b K rv) (hA : cA b iv tp nt tx lk ns tl pa pb ins wd) (hp : p < 8) (hq : q < 8) (hs : s < ns) (hN : 600 < N) :
    zw (fX7_buildBoth N (K, iv, rv, lv) b (nI p) (nI q) (nI s)) (fun z => ∃ iv', z = (K, iv', rv, lv) ∧ fQ (aTwo b) iv iv' ∧ (∀ k, k < ns → usd ins s k = true → cS (b + 63) iv' k (thg tx lk tl pa pb ins (wd p) k)) ∧ (∀ w, w < 8 → iv' (b + 116 + 1) w = wd q w) ∧ ∀ k, k < ns → usd ins s k = true → cS (b + 116) iv' k (thg tx lk tl pa pb ins (wd q) k)) := by
  have hn := hA.2.2.2.2.1.1
  obtain ⟨hC, hX, hL, hWo, hB1, hB2⟩ := id hG
  unfold fX7_buildBoth fX7_buildBoth_0
  refine zw.e (zgr_at hC.1 hC.2.2.2.2.1) ?_
  refine zw.e (zgr_at hC.1 hC.2.2.2.1) ?_
  refine zw.e (zal_at hWo.1 hp (by decide) (hWo.2 p hp).1) ?_
  refine zw.e (zrc_at hB1.1) ?_
  refine zw.c (c_makeIn hG hB1 (by omega) hA hp hs hN) ?_
  rintro S ⟨iv1, rfl, f1, g1, g2⟩
  have hA1 := hA.fr f1 (fun a h1 h2 => by omega)
  refine zw.e (zgr_at hC.1 hC.2.2.2.2.2.1) ?_
  refine zw.e (zgr_at hC.1 hC.2.2.2.1) ?_
  refine zw.e (zal_at hWo.1 hq (by decide) (hWo.2 q hq).1) ?_
  refine zw.e (zrc_at hB2.1) ?_
  refine zw.c (c_makeIn hG hB2 (by omega) hA1 hq hs hN) ?_
  rintro S ⟨iv2, rfl, f2, g3, g4⟩
  exact zw.s ⟨iv2, rfl, (f1.mo (fun a h => by omega)).tr (f2.mo (fun a h => by omega)), fun k h1 h2 => (g2 k h1 h2).far f2 (fun a h3 h4 => by omega) (by omega), g3, g4⟩
theorem c_alike {x y v : Int32} (hG : cG b K rv) (hA : cA b iv tp nt tx lk ns tl pa pb ins wd) (hN : 600 < N) :
    zw (fX7_alike N (K, iv, rv, lv) b x y v) (fun q => q.1 = (if inR 8 x ∧ inR 8 y ∧ inR ns v then (if thg tx lk tl pa pb ins (wd x.toNatClampNeg) v.toNatClampNeg = thg tx lk tl pa pb ins (wd y.toNatClampNeg) v.toNatClampNeg then 1 else 0) else -1) ∧ ∃ iv', q.2 = (K, iv', rv, lv) ∧ fQ (aTwo b) iv iv') := by
  have hn := hA.2.2.2.2.1.1
  obtain ⟨hC, hX, hL, hWo, hB1, hB2⟩ := id hG
  unfold fX7_alike fX7_alike_0 fX7_alike_16 fX7_alike_38
  refine zw.e2 c_areRooms ?_
  by_cases h1 : inR 8 x ∧ inR 8 y
  · rw [if_pos h1]
    refine zw.f (by decide) ?_
    refine zw.e (zrc_at hC.1) ?_
    refine zw.e2 (c_isStep hC hL hA.2.1.1) ?_
    by_cases h2 : inR ns v
    · rw [if_pos h2, if_pos (show inR 8 x ∧ inR 8 y ∧ inR ns v from ⟨h1.1, h1.2, h2⟩)]
      refine zw.f (by decide) ?_
      obtain ⟨p, hp, rfl⟩ := h1.1.at (by decide)
      obtain ⟨q, hq, rfl⟩ := h1.2.at (by decide)
      obtain ⟨s, hs, rfl⟩ := h2.at (by omega)
      rw [nI_clamp (show p < 2 ^ 31 by omega), nI_clamp (show q < 2 ^ 31 by omega), nI_clamp (show s < 2 ^ 31 by omega)]
      refine zw.e (zrc_at hC.1) ?_
      refine zw.c (c_both hG hA hp hq hs hN) ?_
      rintro S ⟨iv1, rfl, f1, g1, g2, g3⟩
      refine zw.e (zrc_at hC.1) ?_
      refine zw.c2 (c_sameThing hG (by omega) (g1 s hs (hA.us hs)) (g3 s hs (hA.us hs)) (fun L e => (cthg_good hA (fun w hw => hA.2.2.2.2.2 p w hp hw) hs e).1) (fun L e => (cthg_good hA (fun w hw => hA.2.2.2.2.2 q w hq hw) hs e).1) (by omega)) ?_
      intro r S e
      cases e
      by_cases e : thg tx lk tl pa pb ins (wd p) s = thg tx lk tl pa pb ins (wd q) s
      · rw [if_pos e]
        exact zw.f (by decide) (zw.s ⟨rfl, iv1, rfl, f1⟩)
      · rw [if_neg e]
        exact zw.t rfl (zw.s ⟨rfl, iv1, rfl, f1⟩)
    · rw [if_neg h2, if_neg (show ¬ (inR 8 x ∧ inR 8 y ∧ inR ns v) from fun q => h2 q.2.2)]
      exact zw.t rfl (zw.s ⟨rfl, iv, rfl, fQ.rf⟩)
  · rw [if_neg h1, if_neg (show ¬ (inR 8 x ∧ inR 8 y ∧ inR ns v) from fun q => h1 ⟨q.1, q.2.1⟩)]
    exact zw.t rfl (zw.s ⟨rfl, iv, rfl, fQ.rf⟩)
theorem c_cause {x y v : Int32} (hG : cG b K rv) (hA : cA b iv tp nt tx lk ns tl pa pb ins wd) (hN : 600 < N) :
    zw (fX7_cause N (K, iv, rv, lv) b x y v) (fun q => ((inR 8 x ∧ inR 8 y ∧ inR ns v → spCause (thg tx lk tl pa pb ins (wd x.toNatClampNeg)) (thg tx lk tl pa pb ins (wd y.toNatClampNeg)) (usd ins v.toNatClampNeg) v.toNatClampNeg q.1) ∧ (¬ (inR 8 x ∧ inR 8 y ∧ inR ns v) → q.1 = -1)) ∧ ∃ iv', q.2 = (K, iv', rv, lv) ∧ fQ (aTwo b) iv iv') := by
  have hn := hA.2.2.2.2.1.1
  have hok := hA.2.2.2.2.1.ok hA.2.2.2.1.2.1
  obtain ⟨hC, hX, hL, hWo, hB1, hB2⟩ := id hG
  unfold fX7_cause fX7_cause_0 fX7_cause_16
  refine zw.e2 c_areRooms ?_
  by_cases h1 : inR 8 x ∧ inR 8 y
  · rw [if_pos h1]
    refine zw.f (by decide) ?_
    refine zw.e (zrc_at hC.1) ?_
    refine zw.e2 (c_isStep hC hL hA.2.1.1) ?_
    by_cases h2 : inR ns v
    · rw [if_pos h2]
      refine zw.f (by decide) ?_
      have h3 : inR 8 x ∧ inR 8 y ∧ inR ns v := ⟨h1.1, h1.2, h2⟩
      obtain ⟨p, hp, rfl⟩ := h1.1.at (by decide)
      obtain ⟨q, hq, rfl⟩ := h1.2.at (by decide)
      obtain ⟨s, hs, rfl⟩ := h2.at (by omega)
      rw [nI_clamp (show p < 2 ^ 31 by omega), nI_clamp (show q < 2 ^ 31 by omega), nI_clamp (show s < 2 ^ 31 by omega)]
      refine zw.e (zrc_at hC.1) ?_
      refine zw.c (c_both hG hA hp hq hs hN) ?_
      rintro S ⟨iv1, rfl, f1, g1, g2, g3⟩
      have hA1 := hA.fr f1 (fun a h1 h2 => by omega)
      have same : ∀ k, k < ns → usd ins s k = true → zw (fX7_sameThing N (K, iv1, rv, lv) b (nI k)) (fun z => z = (if thg tx lk tl pa pb ins (wd p) k = thg tx lk tl pa pb ins (wd q) k then 1 else 0, (K, iv1, rv, lv))) := fun k hk hu => c_sameThing hG (by omega) (g1 k hk hu) (g3 k hk hu) (fun L e => (cthg_good hA (fun w hw => hA.2.2.2.2.2 p w hp hw) hk e).1) (fun L e => (cthg_good hA (fun w hw => hA.2.2.2.2.2 q w hq hw) hk e).1) (by omega)
      refine zw.e (zrc_at hC.1) ?_
      refine zw.c2 (same s hs (hA.us hs)) ?_
      intro r S e
      cases e
      by_cases e : thg tx lk tl pa pb ins (wd p) s = thg tx lk tl pa pb ins (wd q) s
      · rw [if_pos e]
        exact zw.f (by decide) (zw.s ⟨⟨fun _ => ⟨fun _ => rfl, fun z => absurd e z⟩, fun z => absurd h3 z⟩, iv1, rfl, f1⟩)
      · rw [if_neg e]
        refine zw.t rfl ?_
        refine zw.imp (P := fun z => spCause (thg tx lk tl pa pb ins (wd p)) (thg tx lk tl pa pb ins (wd q)) (usd ins s) s z.1 ∧ z.2 = (K, iv1, rv, lv)) ?_ (fun z hz => ⟨⟨fun _ => hz.1, fun z => absurd h3 z⟩, iv1, hz.2, f1⟩)
        unfold lX7_cause_39
        refine zw.loop (fun m y => ∃ k, k + m = s ∧ y = ((K, iv1, rv, lv), b, nI s, nI k) ∧ ∀ j, j < k → ¬ (usd ins s j = true ∧ thg tx lk tl pa pb ins (wd p) j ≠ thg tx lk tl pa pb ins (wd q) j)) ?_ N s _ (by omega) ⟨0, by omega, rfl, fun j hj => by omega⟩
        rintro m ⟨S, x0, x1, x2⟩ Kc ⟨k, hk, hy, g⟩ ih
        cases hy
        dsimp only
        unfold fX7_cause_39 fX7_cause_74
        by_cases hm : m = 0
        · refine zw.t (nI_le (by omega) (by omega)) (zw.s ⟨⟨fun z => absurd z e, fun _ => ⟨s, Nat.le_refl _, rfl, ⟨hA.us hs, e⟩, fun j hj => g j (by omega)⟩⟩, rfl⟩)
        · refine zw.f (nI_ge (show k < s by omega) (by omega)) ?_
          refine zw.e (zgr_at hC.1 hC.2.2.1) ?_
          refine zw.e (zgr_at hL.1 hL.r_used) ?_
          refine zw.e (zil_v hL.k_used rfl (by omega) (by decide) rfl) ?_
          have hb := hA1.2.1.2.2.2.2.2.2.1 s hs k (by omega)
          have next : ¬ (usd ins s k = true ∧ thg tx lk tl pa pb ins (wd p) k ≠ thg tx lk tl pa pb ins (wd q) k) → zw (Kc ((K, iv1, rv, lv), b, nI s, nI k + 1)) (fun z => spCause (thg tx lk tl pa pb ins (wd p)) (thg tx lk tl pa pb ins (wd q)) (usd ins s) s z.1 ∧ z.2 = (K, iv1, rv, lv)) := fun z => ih (m - 1) _ (by omega) ⟨k + 1, by omega, by rw [nI_1 k], fun j hj => by
            by_cases e2 : j = k
            · rw [e2]; exact z
            · exact g j (by omega)⟩
          by_cases hu : usd ins s k = true
          · refine zw.f (fun z => by rw [ush_0 (by omega), hb, hu] at z; cases z) ?_
            refine zw.e (zrc_at hC.1) ?_
            refine zw.c2 (same k (by omega) hu) ?_
            intro r S e2
            cases e2
            by_cases e3 : thg tx lk tl pa pb ins (wd p) k = thg tx lk tl pa pb ins (wd q) k
            · rw [if_pos e3]
              exact zw.f (by decide) (next (fun z => z.2 e3))
            · rw [if_neg e3]
              exact zw.t rfl (zw.s ⟨⟨fun z => absurd z e, fun _ => ⟨k, by omega, rfl, ⟨hu, e3⟩, g⟩⟩, rfl⟩)
          · refine zw.t ((ush_0 (by omega)).mpr (by rw [hb]; exact Bool.eq_false_iff.mpr hu)) (next (fun z => hu z.1))
    · rw [if_neg h2]
      exact zw.t rfl (zw.s ⟨⟨fun q => absurd q.2.2 h2, fun _ => rfl⟩, iv, rfl, fQ.rf⟩)
  · rw [if_neg h1]
    exact zw.t rfl (zw.s ⟨⟨fun q => absurd ⟨q.1, q.2.1⟩ h1, fun _ => rfl⟩, iv, rfl, fQ.rf⟩)
end C7
