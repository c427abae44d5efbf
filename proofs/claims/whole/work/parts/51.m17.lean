/-! makers: the way down -/
def orb (mb : Nat → Option Nat) (m : Nat) : Nat → Option Nat
  | 0 => some m
  | k + 1 => (orb mb m k).bind mb
theorem orb_s {mb : Nat → Option Nat} {m k : Nat} : orb mb m (k + 1) = (orb mb m k).bind mb := rfl
theorem orb_some {mb : Nat → Option Nat} {m k x : Nat} (h : orb mb m k = some x) : orb mb m (k + 1) = mb x := by rw [orb_s, h]; rfl
theorem orb_add {mb : Nat → Option Nat} {m j x : Nat} (h : orb mb m j = some x) : ∀ t, orb mb m (j + t) = orb mb x t
  | 0 => h
  | t + 1 => by
    show (orb mb m (j + t)).bind mb = (orb mb x t).bind mb
    rw [orb_add h t]
theorem orb_lt {mb : Nat → Option Nat} {mf : Nat → Nat} {m : Nat} (hd : dM mb mf) (hm : m < 30) : ∀ k x, orb mb m k = some x → x < 30
  | 0, x, h => by cases h; exact hm
  | k + 1, x, h => by
    obtain ⟨y, h1, h2⟩ := Option.bind_eq_some_iff.mp h
    exact (hd y (orb_lt hd hm k y h1)).1 x h2
theorem orb_none {mb : Nat → Option Nat} {m k : Nat} (h : orb mb m k = none) : ∀ t, orb mb m (k + t) = none
  | 0 => h
  | t + 1 => by
    show (orb mb m (k + t)).bind mb = none
    rw [orb_none h t]
    rfl
/-- how many makers are on the way -/
def wyP (mb : Nat → Option Nat) (m L : Nat) : Prop := 0 < L ∧ (∀ k, k < L → orb mb m k ≠ none) ∧ (∀ i j, i < j → j < L → orb mb m i ≠ orb mb m j) ∧ (orb mb m L = none ∨ ∃ j, j < L ∧ orb mb m L = orb mb m j)
theorem wyP.one {mb : Nat → Option Nat} {m L1 L2 : Nat} (h1 : wyP mb m L1) (h2 : wyP mb m L2) : L1 = L2 := by
  have key : ∀ {a c : Nat}, wyP mb m a → wyP mb m c → ¬ a < c := by
    intro a c ha hc hlt
    rcases ha.2.2.2 with e | ⟨j, hj, e⟩
    · exact hc.2.1 a hlt e
    · exact hc.2.2.1 j a hj hlt e.symm
  have k1 := key h1 h2
  have k2 := key h2 h1
  omega
theorem wy_holes {mb : Nat → Option Nat} {mf : Nat → Nat} {m n : Nat} (hd : dM mb mf) (hm : m < 30) (h1 : ∀ k, k < n → orb mb m k ≠ none) (h2 : ∀ i j, i < j → j < n → orb mb m i ≠ orb mb m j) : n ≤ 30 := by
  refine fb_holes 30 n (fun k => (orb mb m k).getD 0) (fun i hi => ?_) (fun i j hij hj e => ?_)
  · cases e : orb mb m i with
    | none => exact absurd e (h1 i hi)
    | some x => exact orb_lt hd hm i x e
  · have e1 := h1 i (by omega)
    have e2 := h1 j hj
    have e3 := h2 i j hij hj
    cases q1 : orb mb m i with
    | none => exact e1 q1
    | some x =>
      cases q2 : orb mb m j with
      | none => exact e2 q2
      | some y =>
        simp only [q1, q2, Option.getD_some] at e
        exact e3 (by rw [q1, q2, e])
theorem wy_ex {mb : Nat → Option Nat} {mf : Nat → Nat} {m : Nat} (hd : dM mb mf) (hm : m < 30) : ∃ L, wyP mb m L := by
  have h : ∃ k, k < 31 ∧ (orb mb m k = none ∨ ∃ j, j < k ∧ orb mb m k = orb mb m j) := by
    refine Classical.byContradiction fun q => ?_
    have h1 : ∀ k, k < 31 → orb mb m k ≠ none := fun k hk e => q ⟨k, hk, Or.inl e⟩
    have h2 : ∀ i j, i < j → j < 31 → orb mb m i ≠ orb mb m j := fun i j hij hj e => q ⟨j, hj, Or.inr ⟨i, hij, e.symm⟩⟩
    have := wy_holes hd hm h1 h2
    omega
  obtain ⟨L, h1, h2, h3⟩ := @fb_first (fun k => orb mb m k = none ∨ ∃ j, j < k ∧ orb mb m k = orb mb m j) (fun _ => Classical.propDecidable _) 31 h
  refine ⟨L, ?_, fun k hk e => h3 k hk (Or.inl e), fun i j hij hj e => h3 j hj (Or.inr ⟨i, hij, e.symm⟩), h2⟩
  rcases Nat.eq_zero_or_pos L with e | e
  · subst e
    rcases h2 with q | ⟨j, hj, -⟩
    · cases q
    · omega
  · exact e
noncomputable def wyL (mb : Nat → Option Nat) (m : Nat) : Nat := Classical.epsilon fun L => wyP mb m L
theorem wyL_P {mb : Nat → Option Nat} {mf : Nat → Nat} {m : Nat} (hd : dM mb mf) (hm : m < 30) : wyP mb m (wyL mb m) := Classical.epsilon_spec (wy_ex hd hm)
theorem wyL_30 {mb : Nat → Option Nat} {mf : Nat → Nat} {m : Nat} (hd : dM mb mf) (hm : m < 30) : wyL mb m ≤ 30 := wy_holes hd hm (wyL_P hd hm).2.1 (wyL_P hd hm).2.2.1
/-- who is on the way -/
def wyS (mb : Nat → Option Nat) (m L x : Nat) : Bool := (List.range L).any fun k => decide (orb mb m k = some x)
theorem wyS_iff {mb : Nat → Option Nat} {m L x : Nat} : wyS mb m L x = true ↔ ∃ k, k < L ∧ orb mb m k = some x := by
  simp [wyS]
theorem wyS_s {mb : Nat → Option Nat} {m L x : Nat} : wyS mb m (L + 1) x = (wyS mb m L x || decide (orb mb m L = some x)) := by
  simp [wyS, List.range_succ]
/-- in a way with a ring one never comes to a seed -/
theorem orb_all {mb : Nat → Option Nat} {m L : Nat} (h : wyP mb m L) (hr : orb mb m L ≠ none) : ∀ k, orb mb m k ≠ none := by
  rcases h.2.2.2 with e | ⟨j, hj, e⟩
  · exact absurd e hr
  · intro k
    induction k using Nat.strongRecOn with
    | ind k ih =>
      by_cases hk : k < L
      · exact h.2.1 k hk
      · obtain ⟨x, hx⟩ := Option.ne_none_iff_exists'.mp (h.2.1 j hj)
        have e1 : orb mb m (L + (k - L)) = orb mb x (k - L) := orb_add (by rw [e, hx]) _
        have e2 : orb mb m (j + (k - L)) = orb mb x (k - L) := orb_add hx _
        rw [show L + (k - L) = k by omega] at e1
        rw [e1, ← e2]
        exact ih _ (by omega)
/-- the ring, from its start -/
theorem ring_P {mb : Nat → Option Nat} {m L st : Nat} (h : wyP mb m L) (hr : orb mb m L = some st) : ∃ P, wyP mb st P ∧ orb mb st P = some st := by
  rcases h.2.2.2 with e | ⟨j, hj, e⟩
  · rw [hr] at e; cases e
  · have hs : orb mb m j = some st := by rw [← e, hr]
    have ha := orb_add hs
    have hend : orb mb st (L - j) = some st := by
      rw [← ha (L - j), show j + (L - j) = L by omega, hr]
    refine ⟨L - j, ⟨by omega, fun k hk => ?_, fun i k hik hk => ?_, Or.inr ⟨0, by omega, ?_⟩⟩, hend⟩
    · rw [← ha k]; exact h.2.1 _ (by omega)
    · rw [← ha i, ← ha k]; exact h.2.2.1 _ _ (by omega) (by omega)
    · rw [hend]; rfl
section M17
variable {N b : Nat} {K : Nat → Option (Nat × Nat)} {iv : Nat → Nat → Int32} {rv : Nat → Nat → Option Nat} {lv : Nat → Nat → Int64}
variable {mb : Nat → Option Nat} {mf : Nat → Nat} {fg : Nat → Bool} {tp : List Int32} {nt : Nat} {tx : Nat → List Int32} {lk : Nat → Bool}
theorem byV_lt {o : Option Nat} (h : ∀ k, o = some k → k < 30) : byV o < 0 ↔ o = none := by
  cases o with
  | none => exact ⟨fun _ => rfl, fun _ => by decide⟩
  | some k => exact ⟨fun q => absurd q (nI_pos (by have := h k rfl; omega)), fun q => by cases q⟩
noncomputable def spDown (mb : Nat → Option Nat) (m : Nat) : Int32 := if orb mb m (wyL mb m) = none then nI (wyL mb m - 1) else -5
theorem m_downFrom {m : Nat} (hL : mL b K rv) (hM : mM b iv mb mf fg) (hd : dM mb mf) (hm : m < 30) (hN : 3000 < N) : zw (fX8_downFrom N (K, iv, rv, lv) b (nI m)) (fun q => q = (spDown mb m, (K, iv, rv, lv))) := by
  have hP := wyL_P hd hm
  have h30 := wyL_30 hd hm
  generalize hw : wyL mb m = L at *
  unfold fX8_downFrom fX8_downFrom_0 lX8_downFrom_4
  refine zw.loop (fun t y => ∃ n x, n + t = 30 ∧ (orb mb m L = none → n < L) ∧ orb mb m n = some x ∧ y = ((K, iv, rv, lv), b, nI n, nI x)) ?_ N 30 _ (by omega) ⟨0, m, by omega, fun _ => hP.1, rfl, rfl⟩
  rintro t ⟨S, x0, x2, x3⟩ Kc ⟨n, x, ht, hn, hx, hy⟩ ih
  cases hy
  dsimp only
  unfold fX8_downFrom_4
  have hx30 := orb_lt hd hm n x hx
  refine zw.e (zgr_at hL.o hL.r_by) ?_
  refine zw.e (zil_v hL.k_by rfl hx30 (by decide) (hM x hx30).1) ?_
  have hnx := orb_some hx
  by_cases h0 : mb x = none
  · refine zw.t ((byV_lt (hd x hx30).1).mpr h0) (zw.s ?_)
    rw [h0] at hnx
    by_cases hr : orb mb m L = none
    · have hnL := hn hr
      have : n + 1 = L := by
        by_cases q : n + 1 < L
        · exact absurd hnx (hP.2.1 _ q)
        · omega
      rw [spDown, hw, if_pos hr, ← this]
      rfl
    · exact absurd hnx (orb_all hP hr _)
  · refine zw.f (fun q => h0 ((byV_lt (hd x hx30).1).mp q)) ?_
    by_cases hn30 : n = 30
    · refine zw.t (by rw [hn30]; rfl) (zw.s ?_)
      rw [spDown, hw, if_neg (fun q => by have := hn q; omega)]
    · refine zw.f (fun q => hn30 ((nI_eq (by omega) (by decide)).mp q)) ?_
      obtain ⟨z, hz⟩ := Option.ne_none_iff_exists'.mp h0
      refine zw.e (zgr_at hL.o hL.r_by) ?_
      refine zw.e (zil_v (x := nI z) hL.k_by rfl hx30 (by decide) (by rw [(hM x hx30).1, hz]; rfl)) ?_
      rw [hz] at hnx
      refine ih (t - 1) _ (by omega) ⟨n + 1, z, by omega, fun q => ?_, hnx, by rw [nI_1 n]⟩
      have := hn q
      by_cases e : n + 1 = L
      · rw [e, q] at hnx; cases hnx
      · omega
theorem m_down {x : Int32} (hL : mL b K rv) (hM : mM b iv mb mf fg) (hd : dM mb mf) (hN : 3000 < N) : zw (fX8_down N (K, iv, rv, lv) b x) (fun q => q = (if inR 30 x then spDown mb x.toNatClampNeg else -1, (K, iv, rv, lv))) := by
  unfold fX8_down fX8_down_0 fX8_down_16
  refine zw.e2 m_isMaker ?_
  by_cases h1 : inR 30 x
  · rw [if_pos h1]
    refine zw.f (by decide) ?_
    obtain ⟨m, hm, rfl⟩ := h1.at (by decide)
    rw [nI_clamp (show m < 2 ^ 31 by omega)]
    refine zw.e (zrc_at hL.o) ?_
    refine zw.c2 (m_downFrom hL hM hd hm hN) ?_
    intro v S e
    cases e
    exact zw.s (by rw [if_pos h1])
  · rw [if_neg h1]
    exact zw.t rfl (zw.s (by rw [if_neg h1]))
/-- where a walk ends: the start of the ring, or the seed -/
noncomputable def wyE (mb : Nat → Option Nat) (m : Nat) : Int32 := match orb mb m (wyL mb m) with
  | none => byV (orb mb m (wyL mb m - 1))
  | some x => nI x
theorem m_walk {m : Nat} (hL : mL b K rv) (hM : mM b iv mb mf fg) (hd : dM mb mf) (hm : m < 30) (hN : 3000 < N) : zw (fX8_walk N (K, iv, rv, lv) b (nI m)) (fun q => q.1 = wyE mb m ∧ ∃ iv', q.2 = (K, iv', rv, lv) ∧ fM b [26] [] iv iv' ∧ ∀ x, x < 30 → iv' (b + 26) x = if wyS mb m (wyL mb m) x then 1 else 0) := by
  have hP := wyL_P hd hm
  have h30 := wyL_30 hd hm
  unfold wyE
  generalize wyL mb m = L at *
  unfold fX8_walk fX8_walk_0 lX8_walk_2
  refine zw.loop (fun t y => ∃ k iv1, k + t = 30 ∧ y = ((K, iv1, rv, lv), b, nI m, nI k) ∧ fM b [26] [] iv iv1 ∧ ∀ x, x < k → iv1 (b + 26) x = 0) ?_ N 30 _ (by omega) ⟨0, iv, by omega, rfl, fM.rf, fun x hx => by omega⟩
  rintro t ⟨S, x0, x1, x2⟩ Kc ⟨k, iv1, hk, hy, f1, g1⟩ ih
  cases hy
  dsimp only
  unfold fX8_walk_2
  by_cases ht : t = 0
  · have : k = 30 := by omega
    subst this
    refine zw.t (by decide) ?_
    clear ih
    refine zw.e (zgr_at hL.o hL.r_seen) ?_
    refine zw.e (zzs_v (y := 1) hL.k_seen rfl hm (by decide) (by decide)) ?_
    unfold lX8_walk_30
    refine zw.loop (fun t y => ∃ k iv2 z, k + 1 + t = L ∧ y = ((K, iv2, rv, lv), b, nI z) ∧ orb mb m k = some z ∧ fM b [26] [] iv iv2 ∧ ∀ x, x < 30 → iv2 (b + 26) x = if wyS mb m (k + 1) x then 1 else 0) ?_ N (L - 1) _ (by omega) ⟨0, _, m, by have := hP.1; omega, rfl, rfl, f1.put (r := 26) (by simp) _ _, fun x hx => ?_⟩
    rotate_left
    · have e1 : wyS mb m (0 + 1) x = decide (x = m) := by
        rw [wyS_s]
        show (false || decide (some m = some x)) = _
        by_cases e : x = m
        · subst e; simp
        · have : ¬ m = x := fun q => e q.symm
          simp [e, this]
      rw [e1]
      by_cases e : x = m
      · rw [e, zu_s]; simp
      · rw [zu_o (fun q => e q.2), g1 x hx]; simp [e]
    rintro t ⟨S, x0, x2⟩ Kc ⟨k, iv2, z, hk, hy, hz, f2, g2⟩ ih
    cases hy
    dsimp only
    unfold fX8_walk_30 fX8_walk_70 fX8_walk_89
    have hz30 := orb_lt hd hm k z hz
    have hM2 := hM.fr f2 (by decide)
    have hnx := orb_some hz
    refine zw.e (zgr_at hL.o hL.r_by) ?_
    refine zw.e (zil_v hL.k_by rfl hz30 (by decide) (hM2 z hz30).1) ?_
    cases h0 : mb z with
    | none =>
      rw [h0] at hnx
      have hkL : k + 1 = L := by
        by_cases q : k + 1 < L
        · exact absurd hnx (hP.2.1 _ q)
        · omega
      refine zw.t (by decide) ?_
      refine zw.e (zgr_at hL.o hL.r_by) ?_
      refine zw.e (zil_v (x := -1) hL.k_by rfl hz30 (by decide) (by rw [(hM2 z hz30).1, h0]; rfl)) ?_
      refine zw.f (by decide) (zw.s ⟨?_, iv2, rfl, f2, by rw [← hkL]; exact g2⟩)
      rw [← hkL, hnx, show k + 1 - 1 = k by omega, hz]
      rfl
    | some y =>
      have hy30 := (hd z hz30).1 y h0
      rw [h0] at hnx
      have hyv : iv2 (b + 23) z = nI y := by rw [(hM2 z hz30).1, h0]; rfl
      refine zw.f (nI_pos (by omega)) ?_
      refine zw.e (zgr_at hL.o hL.r_seen) ?_
      refine zw.e (zgr_at hL.o hL.r_by) ?_
      refine zw.e (zil_v hL.k_by rfl hz30 (by decide) hyv) ?_
      refine zw.e (zzl_v hL.k_seen rfl hy30 (by decide) (g2 y hy30)) ?_
      by_cases hs : wyS mb m (k + 1) y = true
      · rw [if_pos hs]
        have hkL : k + 1 = L := by
          by_cases q : k + 1 < L
          · obtain ⟨j, hj, e⟩ := wyS_iff.mp hs
            exact absurd (e.trans hnx.symm) (hP.2.2.1 j (k + 1) hj q)
          · omega
        refine zw.f (by decide) ?_
        refine zw.e (zgr_at hL.o hL.r_by) ?_
        refine zw.e (zil_v hL.k_by rfl hz30 (by decide) hyv) ?_
        refine zw.t (Int32.not_lt.mp (nI_pos (by omega))) ?_
        refine zw.e (zgr_at hL.o hL.r_by) ?_
        refine zw.e (zil_v hL.k_by rfl hz30 (by decide) hyv) ?_
        refine zw.s ⟨?_, iv2, rfl, f2, by rw [← hkL]; exact g2⟩
        rw [← hkL, hnx]
      · rw [if_neg hs]
        have hkL : k + 1 ≠ L := by
          intro q
          rw [q] at hnx
          rcases hP.2.2.2 with e | ⟨j, hj, e⟩
          · rw [e] at hnx; cases hnx
          · exact hs (wyS_iff.mpr ⟨j, by omega, by rw [← e, hnx]⟩)
        refine zw.t rfl ?_
        refine zw.e (zgr_at hL.o hL.r_by) ?_
        refine zw.e (zil_v hL.k_by rfl hz30 (by decide) hyv) ?_
        refine zw.e (zgr_at hL.o hL.r_seen) ?_
        refine zw.e (zzs_v (y := 1) hL.k_seen rfl hy30 (by decide) (by decide)) ?_
        refine ih (t - 1) _ (by omega) ⟨k + 1, _, y, by omega, rfl, hnx, f2.put (r := 26) (by simp) _ _, fun x hx => ?_⟩
        rw [wyS_s, hnx]
        by_cases e : x = y
        · rw [e, zu_s]; simp
        · have e2 : ¬ y = x := fun q => e q.symm
          rw [zu_o (fun q => e q.2), g2 x hx]; simp [e2]
  · refine zw.f (nI_ge (show k < 30 by omega) (by decide)) ?_
    refine zw.e (zgr_at hL.o hL.r_seen) ?_
    refine zw.e (zzs_v (y := 0) hL.k_seen rfl (by omega) (by decide) (by decide)) ?_
    refine ih (t - 1) _ (by omega) ⟨k + 1, _, by omega, by rw [nI_1 k], f1.put (r := 26) (by simp) _ _, fun x hx => ?_⟩
    by_cases e : x = k
    · rw [e, zu_s]
    · rw [zu_o (fun q => e q.2)]; exact g1 x (by omega)
/-- what ring answers -/
noncomputable def spRing (mb : Nat → Option Nat) (m : Nat) (x : Int32) : Int32 := match orb mb m (wyL mb m) with
  | none => -2
  | some st => if ¬ x < 0 ∧ x.toNatClampNeg < wyL mb st then byV (orb mb st x.toNatClampNeg) else -1
theorem nI_ge0 {x : Int32} (h : ¬ x < 0) : ∃ i, i < 2 ^ 31 ∧ x = nI i := by
  have h0 := Int32.not_lt.mp h
  rw [Int32.le_iff_toInt_le] at h0
  have e0 : (0 : Int32).toInt = 0 := rfl
  have h2 := fb_rng x
  rw [e0] at h0
  refine ⟨x.toInt.toNat, by omega, ?_⟩
  apply Int32.toInt_inj.mp
  rw [nI_toInt (by omega)]
  omega
theorem spDown_5 {m : Nat} (hd : dM mb mf) (hm : m < 30) : spDown mb m = -5 ↔ orb mb m (wyL mb m) ≠ none := by
  have h30 := wyL_30 hd hm
  unfold spDown
  split
  · next e =>
    constructor
    · intro q
      have := congrArg Int32.toInt q
      rw [nI_toInt (by omega)] at this
      have h2 : (-5 : Int32).toInt = -5 := rfl
      omega
    · intro q; exact absurd e q
  · next e => exact ⟨fun _ => e, fun _ => rfl⟩
theorem m_ring {x y : Int32} (hL : mL b K rv) (hM : mM b iv mb mf fg) (hd : dM mb mf) (hN : 3000 < N) : zw (fX8_ring N (K, iv, rv, lv) b x y) (fun q => q.1 = (if inR 30 x then spRing mb x.toNatClampNeg y else -1) ∧ ∃ iv', q.2 = (K, iv', rv, lv) ∧ fM b [26] [] iv iv') := by
  unfold fX8_ring fX8_ring_0
  refine zw.e2 m_isMaker ?_
  by_cases h1 : inR 30 x
  · rw [if_pos h1]
    refine zw.f (by decide) ?_
    obtain ⟨m, hm, rfl⟩ := h1.at (by decide)
    rw [nI_clamp (show m < 2 ^ 31 by omega), if_pos h1]
    refine zw.e (zrc_at hL.o) ?_
    refine zw.c2 (m_downFrom hL hM hd hm hN) ?_
    intro v S e
    cases e
    have hP := wyL_P hd hm
    cases hr : orb mb m (wyL mb m) with
    | none =>
      refine zw.f (fun q => (spDown_5 hd hm).mp q hr) (zw.s ⟨?_, iv, rfl, fM.rf⟩)
      unfold spRing
      rw [hr]
    | some st =>
      have hsp : spRing mb m y = if ¬ y < 0 ∧ y.toNatClampNeg < wyL mb st then byV (orb mb st y.toNatClampNeg) else -1 := by
        unfold spRing
        rw [hr]
      rw [hsp]
      have hst30 := orb_lt hd hm _ st hr
      refine zw.t ((spDown_5 hd hm).mpr (by rw [hr]; exact fun q => by cases q)) ?_
      refine zw.e (zrc_at hL.o) ?_
      refine zw.c2 (m_walk hL hM hd hm hN) ?_
      rintro v S ⟨hv, iv1, rfl, f1, -⟩
      have hv : v = nI st := by have hv : v = wyE mb m := hv; rw [hv, wyE, hr]
      subst hv
      have hM1 := hM.fr f1 (by decide)
      obtain ⟨P, hP1, hP2⟩ := ring_P hP hr
      have hPe : wyL mb st = P := (wyL_P hd hst30).one hP1
      have hP30 := wyL_30 hd hst30
      rw [hPe] at hP30 ⊢
      by_cases hy : y < 0
      · exact zw.f (Int32.not_le.mpr hy) (zw.s ⟨by rw [if_neg (fun q => q.1 hy)], iv1, rfl, f1⟩)
      · obtain ⟨i, hi, rfl⟩ := nI_ge0 hy
        rw [nI_clamp hi]
        refine zw.t (Int32.not_lt.mp hy) ?_
        unfold lX8_ring_40
        refine zw.loop (fun t z => ∃ k u, k + t = P - 1 ∧ k < P ∧ k ≤ i ∧ orb mb st k = some u ∧ z = ((K, iv1, rv, lv), b, nI i, nI st, nI u, nI k)) ?_ N (P - 1) _ (by omega) ⟨0, st, by omega, hP1.1, by omega, rfl, rfl⟩
        rintro t ⟨S, x0, x2, x3, x4, x5⟩ Kc ⟨k, u, hk, hkP, hki, hu, hz⟩ ih
        cases hz
        dsimp only
        unfold fX8_ring_40
        have hu30 := orb_lt hd hst30 k u hu
        by_cases hik : i ≤ k
        · have : i = k := by omega
          subst this
          exact zw.t (Int32.le_refl _) (zw.s ⟨by rw [if_pos ⟨hy, hkP⟩, hu]; rfl, iv1, rfl, f1⟩)
        · refine zw.f (nI_ge (show k < i by omega) (by omega)) ?_
          have hnx := orb_some hu
          refine zw.e (zgr_at hL.o hL.r_by) ?_
          by_cases hlast : k + 1 = P
          · rw [hlast, hP2] at hnx
            refine zw.e (zil_v (x := nI st) hL.k_by rfl hu30 (by decide) (by rw [(hM1 u hu30).1, ← hnx]; rfl)) ?_
            exact zw.t rfl (zw.s ⟨by rw [if_neg (by omega)], iv1, rfl, f1⟩)
          · obtain ⟨w, hw⟩ := Option.ne_none_iff_exists'.mp (hP1.2.1 (k + 1) (by omega))
            have hw30 := orb_lt hd hst30 _ w hw
            rw [hw] at hnx
            refine zw.e (zil_v (x := nI w) hL.k_by rfl hu30 (by decide) (by rw [(hM1 u hu30).1, ← hnx]; rfl)) ?_
            refine zw.f (fun q => ?_) (ih (t - 1) _ (by omega) ⟨k + 1, w, by omega, by omega, by omega, hw, by rw [nI_1 k]⟩)
            have : w = st := (nI_eq (by omega) (by omega)).mp q
            exact hP1.2.2.1 0 (k + 1) (by omega) (by omega) (by rw [hw, this]; rfl)
  · rw [if_neg h1]
    exact zw.t rfl (zw.s ⟨by rw [if_neg h1], iv, rfl, fM.rf⟩)
/-- the texts needed on the way -/
noncomputable def ndT (mb : Nat → Option Nat) (mf : Nat → Nat) (m t : Nat) : Bool := (List.range 30).any fun k => wyS mb m (wyL mb m) k && ((mb k).isSome && decide (mf k = t))
noncomputable def spNeeds (mb : Nat → Option Nat) (mf : Nat → Nat) (lk : Nat → Bool) (m : Nat) (y : Int32) : Int32 := nI (fb_ct (fun t => ndT mb mf m t && (decide (y = 0) || lk t)) 20)
theorem m_needs {x y : Int32} (hL : mL b K rv) (hT : mT b iv tp nt tx lk) (hM : mM b iv mb mf fg) (hd : dM mb mf) (hN : 3000 < N) : zw (fX8_needs N (K, iv, rv, lv) b x y) (fun q => q.1 = (if inR 30 x ∧ inR 2 y then spNeeds mb mf lk x.toNatClampNeg y else -1) ∧ ∃ iv', q.2 = (K, iv', rv, lv) ∧ fM b [26, 27] [] iv iv') := by
  unfold fX8_needs fX8_needs_0 fX8_needs_16
  refine zw.e2 m_isMaker ?_
  by_cases h1 : inR 30 x
  · rw [if_pos h1]
    refine zw.f (by decide) ?_
    refine zw.e2 (m_inR (n := 1) (by decide)) ?_
    by_cases h2 : inR 2 y
    · rw [if_pos h2]
      refine zw.f (by decide) ?_
      obtain ⟨m, hm, rfl⟩ := h1.at (by decide)
      rw [nI_clamp (show m < 2 ^ 31 by omega), if_pos ⟨h1, h2⟩]
      refine zw.e (zrc_at hL.o) ?_
      refine zw.c2 (m_walk hL hM hd hm hN) ?_
      rintro v S ⟨-, iv1, rfl, f1, gS⟩
      unfold lX8_needs_27
      refine zw.loop (fun t z => ∃ k iv2, k + t = 20 ∧ z = ((K, iv2, rv, lv), b, y, nI k) ∧ fM b [27] [] iv1 iv2 ∧ ∀ j, j < k → iv2 (b + 27) j = 0) ?_ N 20 _ (by omega) ⟨0, iv1, by omega, rfl, fM.rf, fun j hj => by omega⟩
      rintro t ⟨S, x0, x2, x4⟩ Kc ⟨k, iv2, hk, hz, f2, g2⟩ ih
      cases hz
      dsimp only
      unfold fX8_needs_27
      by_cases ht : t = 0
      · have : k = 20 := by omega
        subst this
        refine zw.t (by decide) ?_
        clear ih
        unfold lX8_needs_51
        refine zw.loop (fun t z => ∃ k iv3, k + t = 30 ∧ z = ((K, iv3, rv, lv), b, y, nI k) ∧ fM b [27] [] iv1 iv3 ∧ ∀ j, j < 20 → iv3 (b + 27) j = if (List.range k).any (fun k => wyS mb m (wyL mb m) k && ((mb k).isSome && decide (mf k = j))) then 1 else 0) ?_ N 30 _ (by omega) ⟨0, iv2, by omega, rfl, f2, fun j hj => by rw [g2 j hj]; rfl⟩
        rintro t ⟨S, x0, x2, x4⟩ Kc ⟨k, iv3, hk, hz, f3, g3⟩ ih
        cases hz
        dsimp only
        unfold fX8_needs_51 fX8_needs_91
        by_cases ht : t = 0
        · have : k = 30 := by omega
          subst this
          refine zw.t (by decide) ?_
          clear ih
          have hT3 := (hT.fr f1 (by decide) (by decide)).fr f3 (by decide) (by decide)
          unfold lX8_needs_103
          refine zw.loop (fun t z => ∃ k, k + t = 20 ∧ z = ((K, iv3, rv, lv), b, y, nI (fb_ct (fun t => ndT mb mf m t && (decide (y = 0) || lk t)) k), nI k)) ?_ N 20 _ (by omega) ⟨0, by omega, rfl⟩
          rintro t ⟨S, x0, x2, x4, x5⟩ Kc ⟨k, hk, hz⟩ ih
          cases hz
          dsimp only
          unfold fX8_needs_103 fX8_needs_140 fX8_needs_136 fX8_needs_141
          by_cases ht : t = 0
          · have : k = 20 := by omega
            subst this
            exact zw.t (by decide) (zw.s ⟨rfl, iv3, rfl, (f1.mo (by simp) (by simp)).tr (f3.mo (by simp) (by simp))⟩)
          · refine zw.f (nI_ge (show k < 20 by omega) (by decide)) ?_
            have step : ∀ d : Nat, d = (if (ndT mb mf m k && (decide (y = 0) || lk k)) then 1 else 0) → zw (Kc ((K, iv3, rv, lv), b, y, nI (fb_ct (fun t => ndT mb mf m t && (decide (y = 0) || lk t)) k) + nI d, nI k + 1)) (fun q => q.1 = spNeeds mb mf lk m y ∧ ∃ iv', q.2 = (K, iv', rv, lv) ∧ fM b [26, 27] [] iv iv') := fun d hd => ih (t - 1) _ (by omega) ⟨k + 1, by omega, by rw [nI_1 k, nI_add, fb_ct_succ, hd]⟩
            refine zw.e (zgr_at hL.o hL.r_used) ?_
            refine zw.e (zzl_v hL.k_used rfl (by omega) (by decide) (g3 k (by omega))) ?_
            have hnd : (List.range 30).any (fun k_1 => wyS mb m (wyL mb m) k_1 && ((mb k_1).isSome && decide (mf k_1 = k))) = ndT mb mf m k := rfl
            rw [hnd]
            cases hn : ndT mb mf m k with
            | false => exact zw.t rfl (step 0 (by rw [hn]; rfl))
            | true =>
              refine zw.f (by decide) ?_
              by_cases hy : y = 0
              · exact zw.t hy (step 1 (by rw [hn]; simp [hy]))
              · refine zw.f hy ?_
                refine zw.e (zgr_at hL.o hL.r_lacking) ?_
                refine zw.e (zzl_v hL.k_lacking rfl (by omega) (by decide) (hT3.2.2.2.2.2 k (by omega))) ?_
                cases hlk : lk k with
                | false => exact zw.t rfl (step 0 (by rw [hn, hlk]; simp [hy]))
                | true => exact zw.f (by decide) (step 1 (by rw [hn, hlk]; simp))
        · refine zw.f (nI_ge (show k < 30 by omega) (by decide)) ?_
          have hM3 := (hM.fr f1 (by decide)).fr f3 (by decide)
          have hS3 : iv3 (b + 26) k = if wyS mb m (wyL mb m) k then 1 else 0 := by rw [f3.arr (by decide) (by decide)]; exact gS k (by omega)
          have any_s : ∀ j, (List.range (k + 1)).any (fun k => wyS mb m (wyL mb m) k && ((mb k).isSome && decide (mf k = j))) = ((List.range k).any (fun k => wyS mb m (wyL mb m) k && ((mb k).isSome && decide (mf k = j))) || (wyS mb m (wyL mb m) k && ((mb k).isSome && decide (mf k = j)))) := fun j => by simp [List.range_succ]
          have skip : (wyS mb m (wyL mb m) k && (mb k).isSome) = false → zw (Kc ((K, iv3, rv, lv), b, y, nI k + 1)) (fun q => q.1 = spNeeds mb mf lk m y ∧ ∃ iv', q.2 = (K, iv', rv, lv) ∧ fM b [26, 27] [] iv iv') := fun h => ih (t - 1) _ (by omega) ⟨k + 1, iv3, by omega, by rw [nI_1 k], f3, fun j hj => by
            rw [any_s, ← Bool.and_assoc, h, g3 j hj]
            simp⟩
          refine zw.e (zgr_at hL.o hL.r_seen) ?_
          refine zw.e (zzl_v hL.k_seen rfl (by omega) (by decide) hS3) ?_
          cases hw : wyS mb m (wyL mb m) k with
          | false => exact zw.t rfl (skip (by rw [hw]; rfl))
          | true =>
            refine zw.f (by decide) ?_
            refine zw.e (zgr_at hL.o hL.r_by) ?_
            refine zw.e (zil_v hL.k_by rfl (by omega) (by decide) (hM3 k (by omega)).1) ?_
            cases hb : mb k with
            | none => exact zw.t (by decide) (skip (by rw [hb]; simp))
            | some z =>
              have hz30 := (hd k (by omega)).1 z hb
              have hf20 := (hd k (by omega)).2
              refine zw.f (nI_pos (by omega)) ?_
              refine zw.e (zgr_at hL.o hL.r_used) ?_
              refine zw.e (zgr_at hL.o hL.r_from) ?_
              refine zw.e (zil_v hL.k_from rfl (by omega) (by decide) (hM3 k (by omega)).2.1) ?_
              refine zw.e (zzs_v (y := 1) hL.k_used rfl hf20 (by decide) (by decide)) ?_
              refine ih (t - 1) _ (by omega) ⟨k + 1, _, by omega, by rw [nI_1 k], f3.put (r := 27) (by simp) _ _, fun j hj => ?_⟩
              rw [any_s, hw, hb]
              by_cases e : j = mf k
              · rw [e, zu_s]; simp
              · have e2 : ¬ mf k = j := fun q => e q.symm
                rw [zu_o (fun q => e q.2), g3 j hj]; simp [e2]
      · refine zw.f (nI_ge (show k < 20 by omega) (by decide)) ?_
        refine zw.e (zgr_at hL.o hL.r_used) ?_
        refine zw.e (zzs_v (y := 0) hL.k_used rfl (by omega) (by decide) (by decide)) ?_
        refine ih (t - 1) _ (by omega) ⟨k + 1, _, by omega, by rw [nI_1 k], f2.put (r := 27) (by simp) _ _, fun j hj => ?_⟩
        by_cases e : j = k
        · rw [e, zu_s]
        · rw [zu_o (fun q => e q.2)]; exact g2 j (by omega)
    · rw [if_neg h2]
      exact zw.t rfl (zw.s ⟨by rw [if_neg (fun q => h2 q.2)], iv, rfl, fM.rf⟩)
  · rw [if_neg h1]
    exact zw.t rfl (zw.s ⟨by rw [if_neg (fun q => h1 q.1)], iv, rfl, fM.rf⟩)
noncomputable def spTrust (mb : Nat → Option Nat) (fg : Nat → Bool) (m : Nat) : Int32 := if (List.range 30).any (fun k => wyS mb m (wyL mb m) k && fg k) then 0 else 1
theorem m_trust {x : Int32} (hL : mL b K rv) (hM : mM b iv mb mf fg) (hd : dM mb mf) (hN : 3000 < N) : zw (fX8_trust N (K, iv, rv, lv) b x) (fun q => q.1 = (if inR 30 x then spTrust mb fg x.toNatClampNeg else -1) ∧ ∃ iv', q.2 = (K, iv', rv, lv) ∧ fM b [26] [] iv iv') := by
  unfold fX8_trust fX8_trust_0
  refine zw.e2 m_isMaker ?_
  by_cases h1 : inR 30 x
  · rw [if_pos h1]
    refine zw.f (by decide) ?_
    obtain ⟨m, hm, rfl⟩ := h1.at (by decide)
    rw [nI_clamp (show m < 2 ^ 31 by omega), if_pos h1]
    refine zw.e (zrc_at hL.o) ?_
    refine zw.c2 (m_walk hL hM hd hm hN) ?_
    rintro v S ⟨-, iv1, rfl, f1, gS⟩
    have hM1 := hM.fr f1 (by decide)
    unfold lX8_trust_17
    refine zw.loop (fun t z => ∃ k, k + t = 30 ∧ z = ((K, iv1, rv, lv), b, nI k) ∧ (List.range k).any (fun k => wyS mb m (wyL mb m) k && fg k) = false) ?_ N 30 _ (by omega) ⟨0, by omega, rfl, rfl⟩
    rintro t ⟨S, x0, x3⟩ Kc ⟨k, hk, hz, g⟩ ih
    cases hz
    dsimp only
    unfold fX8_trust_17 fX8_trust_43
    by_cases ht : t = 0
    · have : k = 30 := by omega
      subst this
      refine zw.t (by decide) (zw.s ⟨?_, iv1, rfl, f1⟩)
      rw [spTrust, g]
      rfl
    · refine zw.f (nI_ge (show k < 30 by omega) (by decide)) ?_
      have skip : (wyS mb m (wyL mb m) k && fg k) = false → zw (Kc ((K, iv1, rv, lv), b, nI k + 1)) (fun q => q.1 = spTrust mb fg m ∧ ∃ iv', q.2 = (K, iv', rv, lv) ∧ fM b [26] [] iv iv') := fun h => ih (t - 1) _ (by omega) ⟨k + 1, by omega, by rw [nI_1 k], by rw [List.range_succ, List.any_append, g]; simpa using h⟩
      refine zw.e (zgr_at hL.o hL.r_seen) ?_
      refine zw.e (zzl_v hL.k_seen rfl (by omega) (by decide) (gS k (by omega))) ?_
      cases hw : wyS mb m (wyL mb m) k with
      | false => exact zw.t rfl (skip (by rw [hw]; rfl))
      | true =>
        refine zw.f (by decide) ?_
        refine zw.e (zgr_at hL.o hL.r_forged) ?_
        refine zw.e (zzl_v hL.k_forged rfl (by omega) (by decide) (hM1 k (by omega)).2.2) ?_
        cases hf : fg k with
        | false => exact zw.t rfl (skip (by rw [hf]; simp))
        | true =>
          refine zw.f (by decide) (zw.s ⟨?_, iv1, rfl, f1⟩)
          rw [spTrust, if_pos]
          exact List.any_eq_true.mpr ⟨k, List.mem_range.mpr (by omega), by rw [hw, hf]; rfl⟩
  · rw [if_neg h1]
    exact zw.t rfl (zw.s ⟨by rw [if_neg h1], iv, rfl, fM.rf⟩)
noncomputable def spHeirs (mb : Nat → Option Nat) (m : Nat) : Int32 := nI (fb_ct (fun k => decide (k ≠ m) && wyS mb k (wyL mb k) m) 30)
theorem m_heirs {x : Int32} (hL : mL b K rv) (hM : mM b iv mb mf fg) (hd : dM mb mf) (hN : 3000 < N) : zw (fX8_heirs N (K, iv, rv, lv) b x) (fun q => q.1 = (if inR 30 x then spHeirs mb x.toNatClampNeg else -1) ∧ ∃ iv', q.2 = (K, iv', rv, lv) ∧ fM b [26] [] iv iv') := by
  unfold fX8_heirs fX8_heirs_0
  refine zw.e2 m_isMaker ?_
  by_cases h1 : inR 30 x
  · rw [if_pos h1]
    refine zw.f (by decide) ?_
    obtain ⟨m, hm, rfl⟩ := h1.at (by decide)
    rw [nI_clamp (show m < 2 ^ 31 by omega), if_pos h1]
    unfold lX8_heirs_13
    refine zw.loop (fun t z => ∃ k iv1, k + t = 30 ∧ z = ((K, iv1, rv, lv), b, nI m, nI (fb_ct (fun k => decide (k ≠ m) && wyS mb k (wyL mb k) m) k), nI k) ∧ fM b [26] [] iv iv1) ?_ N 30 _ (by omega) ⟨0, iv, by omega, rfl, fM.rf⟩
    rintro t ⟨S, x0, x1, x2, x3⟩ Kc ⟨k, iv1, hk, hz, f1⟩ ih
    cases hz
    dsimp only
    unfold fX8_heirs_13 fX8_heirs_45 fX8_heirs_46
    by_cases ht : t = 0
    · have : k = 30 := by omega
      subst this
      exact zw.t (by decide) (zw.s ⟨rfl, iv1, rfl, f1⟩)
    · refine zw.f (nI_ge (show k < 30 by omega) (by decide)) ?_
      refine zw.e (zrc_at hL.o) ?_
      refine zw.c2 (m_walk hL (hM.fr f1 (by decide)) hd (show k < 30 by omega) hN) ?_
      rintro v S ⟨-, iv2, rfl, f2, gS⟩
      have step : ∀ d : Nat, d = (if (decide (k ≠ m) && wyS mb k (wyL mb k) m) then 1 else 0) → zw (Kc ((K, iv2, rv, lv), b, nI m, nI (fb_ct (fun k => decide (k ≠ m) && wyS mb k (wyL mb k) m) k) + nI d, nI k + 1)) (fun q => q.1 = spHeirs mb m ∧ ∃ iv', q.2 = (K, iv', rv, lv) ∧ fM b [26] [] iv iv') := fun d hd => ih (t - 1) _ (by omega) ⟨k + 1, iv2, by omega, by rw [nI_1 k, nI_add, fb_ct_succ, hd], f1.tr f2⟩
      by_cases hkm : k = m
      · exact zw.t (by rw [hkm]) (step 0 (by simp [hkm]))
      · refine zw.f (fun q => hkm ((nI_eq (by omega) (by omega)).mp q)) ?_
        refine zw.e (zgr_at hL.o hL.r_seen) ?_
        refine zw.e (zzl_v hL.k_seen rfl hm (by decide) (gS m hm)) ?_
        cases hw : wyS mb k (wyL mb k) m with
        | false => exact zw.t rfl (step 0 (by rw [hw]; simp))
        | true => exact zw.f (by decide) (step 1 (by rw [hw]; simp [hkm]))
  · rw [if_neg h1]
    exact zw.t rfl (zw.s ⟨by rw [if_neg h1], iv, rfl, fM.rf⟩)
end M17
