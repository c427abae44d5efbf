/-! the class: orders: numbers pushed on -/
def puW (n : Nat) (nd : Nat → Int32) (d j t : Nat) : Nat := if t = 0 then 1 else fb_sm (fun k => if okL nd t k ∧ (rmv t k < d ∨ (rmv t k = d ∧ k < j)) then wys n nd (rmv t k) else 0) n
section PU
variable {n : Nat} {nd : Nat → Int32} {d j t : Nat}
theorem puW_0 : puW n nd 0 0 t = if t = 0 then 1 else 0 := by
  unfold puW
  by_cases e : t = 0
  · rw [if_pos e, if_pos e]
  · rw [if_neg e, if_neg e]
    exact fb_sm_z fun k _ => if_neg (by rintro ⟨-, q | q⟩ <;> omega)
theorem puW_step (hj : j < n) : puW n nd d (j + 1) t = puW n nd d j t + if t ≠ 0 ∧ okL nd t j ∧ rmv t j = d then wys n nd d else 0 := by
  unfold puW
  by_cases e : t = 0
  · rw [if_pos e, if_pos e, if_neg (fun q => q.1 e)]
  · rw [if_neg e, if_neg e]
    have h1 := fb_sm_upd (fun k => if okL nd t k ∧ (rmv t k < d ∨ (rmv t k = d ∧ k < j)) then wys n nd (rmv t k) else 0) (if okL nd t j ∧ (rmv t j < d ∨ (rmv t j = d ∧ j < j + 1)) then wys n nd (rmv t j) else 0) hj
    have h2 : fb_sm (fun k => if okL nd t k ∧ (rmv t k < d ∨ (rmv t k = d ∧ k < j + 1)) then wys n nd (rmv t k) else 0) n = fb_sm (fun k => if k = j then (if okL nd t j ∧ (rmv t j < d ∨ (rmv t j = d ∧ j < j + 1)) then wys n nd (rmv t j) else 0) else (if okL nd t k ∧ (rmv t k < d ∨ (rmv t k = d ∧ k < j)) then wys n nd (rmv t k) else 0)) n := fb_sm_cong fun k _ => by
      by_cases e2 : k = j
      · rw [if_pos e2, e2]
      · rw [if_neg e2]
        have : (okL nd t k ∧ (rmv t k < d ∨ (rmv t k = d ∧ k < j + 1))) ↔ (okL nd t k ∧ (rmv t k < d ∨ (rmv t k = d ∧ k < j))) := by
          constructor
          · rintro ⟨q1, q2⟩; exact ⟨q1, by omega⟩
          · rintro ⟨q1, q2⟩; exact ⟨q1, by omega⟩
        by_cases q : okL nd t k ∧ (rmv t k < d ∨ (rmv t k = d ∧ k < j))
        · rw [if_pos q, if_pos (this.mpr q)]
        · rw [if_neg q, if_neg (fun z => q (this.mp z))]
    rw [h2]
    by_cases hok : okL nd t j
    · by_cases hl : rmv t j < d
      · rw [if_pos (show okL nd t j ∧ (rmv t j < d ∨ (rmv t j = d ∧ j < j + 1)) from ⟨hok, Or.inl hl⟩), if_pos (show okL nd t j ∧ (rmv t j < d ∨ (rmv t j = d ∧ j < j)) from ⟨hok, Or.inl hl⟩)] at h1
        rw [if_pos (show okL nd t j ∧ (rmv t j < d ∨ (rmv t j = d ∧ j < j + 1)) from ⟨hok, Or.inl hl⟩), if_neg (show ¬ (t ≠ 0 ∧ okL nd t j ∧ rmv t j = d) from fun q => by omega)]
        omega
      · by_cases hq : rmv t j = d
        · rw [if_pos (show okL nd t j ∧ (rmv t j < d ∨ (rmv t j = d ∧ j < j + 1)) from ⟨hok, Or.inr ⟨hq, by omega⟩⟩), if_neg (show ¬ (okL nd t j ∧ (rmv t j < d ∨ (rmv t j = d ∧ j < j))) from fun q => by omega)] at h1
          rw [if_pos (show okL nd t j ∧ (rmv t j < d ∨ (rmv t j = d ∧ j < j + 1)) from ⟨hok, Or.inr ⟨hq, by omega⟩⟩), if_pos (show t ≠ 0 ∧ okL nd t j ∧ rmv t j = d from ⟨e, hok, hq⟩)]
          rw [hq] at h1 ⊢
          omega
        · rw [if_neg (show ¬ (okL nd t j ∧ (rmv t j < d ∨ (rmv t j = d ∧ j < j + 1))) from fun q => by omega), if_neg (show ¬ (okL nd t j ∧ (rmv t j < d ∨ (rmv t j = d ∧ j < j))) from fun q => by omega)] at h1
          rw [if_neg (show ¬ (okL nd t j ∧ (rmv t j < d ∨ (rmv t j = d ∧ j < j + 1))) from fun q => by omega), if_neg (show ¬ (t ≠ 0 ∧ okL nd t j ∧ rmv t j = d) from fun q => hq q.2.2)]
          omega
    · rw [if_neg (show ¬ (okL nd t j ∧ (rmv t j < d ∨ (rmv t j = d ∧ j < j + 1))) from fun q => hok q.1), if_neg (show ¬ (okL nd t j ∧ (rmv t j < d ∨ (rmv t j = d ∧ j < j))) from fun q => hok q.1)] at h1
      rw [if_neg (show ¬ (okL nd t j ∧ (rmv t j < d ∨ (rmv t j = d ∧ j < j + 1))) from fun q => hok q.1), if_neg (show ¬ (t ≠ 0 ∧ okL nd t j ∧ rmv t j = d) from fun q => hok q.2.1)]
      omega
theorem puW_cong {d d' j j' : Nat} (h : ∀ k, k < n → okL nd t k → ((rmv t k < d ∨ (rmv t k = d ∧ k < j)) ↔ (rmv t k < d' ∨ (rmv t k = d' ∧ k < j')))) : puW n nd d j t = puW n nd d' j' t := by
  unfold puW
  by_cases e : t = 0
  · rw [if_pos e, if_pos e]
  · rw [if_neg e, if_neg e]
    refine fb_sm_cong fun k hk => ?_
    by_cases hok : okL nd t k
    · have := h k hk hok
      by_cases q : rmv t k < d ∨ (rmv t k = d ∧ k < j)
      · rw [if_pos ⟨hok, q⟩, if_pos ⟨hok, this.mp q⟩]
      · rw [if_neg (fun z => q z.2), if_neg (fun z => q (this.mpr z.2))]
    · rw [if_neg (fun z => hok z.1), if_neg (fun z => hok z.1)]
theorem puW_row : puW n nd d n t = puW n nd (d + 1) 0 t := puW_cong fun k hk _ => by omega
theorem puW_full {D : Nat} (h : t ≤ D) : puW n nd D j t = wys n nd t := by
  unfold puW
  by_cases e : t = 0
  · rw [if_pos e, e, wys_0]
  · rw [if_neg e, wys_s e]
    refine fb_sm_cong fun k hk => ?_
    by_cases hok : okL nd t k
    · have := rmv_lt hok.1
      rw [if_pos ⟨hok, Or.inl (by omega)⟩, if_pos hok]
    · rw [if_neg (fun z => hok z.1), if_neg hok]
theorem rmv_rmv (t k : Nat) : rmv (rmv t k) k = t := by
  unfold rmv
  rw [Nat.xor_assoc, Nat.xor_self, Nat.xor_zero]
theorem or_rmv {d k : Nat} (h : d.testBit k = false) : d ||| 2 ^ k = rmv d k := by
  apply Nat.eq_of_testBit_eq
  intro i
  rw [rmv_bit, fb_bit_set]
  by_cases e : i = k
  · rw [e, h]; simp
  · simp [e]
/-- a set that counts for nothing may be left out -/
theorem puW_skip (h0 : lN (wys n nd d) = 0) : lN (puW n nd (d + 1) 0 t) = lN (puW n nd d 0 t) := by
  rw [← puW_row]
  have key : ∀ j, j ≤ n → lN (puW n nd d j t) = lN (puW n nd d 0 t) := by
    intro j
    induction j with
    | zero => intro _; rfl
    | succ j ih =>
      intro hj
      rw [puW_step (by omega), ← lN_add, ih (by omega)]
      split
      · rw [h0]; simp
      · show lN _ + lN 0 = _
        rw [lN_add]; rfl
  exact key n (Nat.le_refl _)
end PU
section C14
variable {N b z : Nat} {K : Nat → Option (Nat × Nat)} {iv : Nat → Nat → Int32} {rv : Nat → Nat → Option Nat} {lv : Nat → Nat → Int64} {S : zS} {l1 l2 wa wn : Nat}
variable {nt : Nat} {ns : Nat} {tl : Nat → Nat} {pa : Nat → Int32} {pb : Nat → Nat} {ins : Nat → List Nat}
theorem zll_v {a n i : Nat} {x : Int64} (hk : K a = some (10, n)) (hi : i < n) (hn : n < 2 ^ 31) (hv : lv a i = x) : zll (K, iv, rv, lv) a (nI i) = some x := by rw [zll_at hk hi hn, hv]
/-- one more step is done, out of the set d -/
theorem c_doOne {d n : Nat} {nd : Nat → Int32} (hO : cOrd b wa wn K rv) (hn : n ≤ 15) (hw : 2 ^ n ≤ wn) (hd : d < 2 ^ n) (hnd : ∀ k, k < n → iv (b + 178) k = nd k) (hV : ∀ t, t < 2 ^ n → lv wa t = lN (puW n nd d 0 t)) (hN : 100 < N) :
    zw (fX3_doOneMore N (K, iv, rv, lv) (b + 176) (nI d) (nI n)) (fun q => ∃ lv', q = (K, iv, rv, lv') ∧ ∀ t, t < 2 ^ n → lv' wa t = lN (puW n nd (d + 1) 0 t)) := by
  obtain ⟨o1, o2, o3, o4, o5, o6⟩ := hO
  have hp : 2 ^ n ≤ 32768 := Nat.pow_le_pow_right (n := 2) (by decide) hn
  unfold fX3_doOneMore fX3_doOneMore_0 lX3_doOneMore_2
  refine zw.loop (fun m y => ∃ k lv1, k + m = n ∧ y = ((K, iv, rv, lv1), b + 176, nI d, nI n, nI k) ∧ ∀ t, t < 2 ^ n → lv1 wa t = lN (puW n nd d k t)) ?_ N n _ (by omega) ⟨0, lv, by omega, rfl, hV⟩
  rintro m ⟨S, x0, x1, x2, x3⟩ Kc ⟨k, lv1, hk, hy, g⟩ ih
  cases hy
  dsimp only
  unfold fX3_doOneMore_2 fX3_doOneMore_47
  by_cases hm : m = 0
  · have : k = n := by omega
    subst this
    refine zw.t (Int32.le_refl _) (zw.s ⟨lv1, rfl, fun t ht => by rw [← puW_row]; exact g t ht⟩)
  · refine zw.f (nI_ge (show k < n by omega) (by omega)) ?_
    have skip : (∀ t, ¬ (t ≠ 0 ∧ okL nd t k ∧ rmv t k = d)) → zw (Kc ((K, iv, rv, lv1), b + 176, nI d, nI n, nI k + 1)) (fun q => ∃ lv', q = (K, iv, rv, lv') ∧ ∀ t, t < 2 ^ n → lv' wa t = lN (puW n nd (d + 1) 0 t)) := fun h => ih (m - 1) _ (by omega) ⟨k + 1, lv1, by omega, by rw [nI_1 k], fun t ht => by rw [puW_step (by omega), if_neg (h t)]; exact g t ht⟩
    by_cases hb : d.testBit k = true
    · refine zw.f (fun q => by rw [ush_0 (by omega), bt_nI (by omega), hb] at q; cases q) (skip fun t q => ?_)
      have : (rmv t k).testBit k = false := by rw [rmv_bit, q.2.1.1]; simp
      rw [q.2.2, hb] at this
      cases this
    · have hb := Bool.eq_false_iff.mpr hb
      refine zw.t ((ush_0 (by omega)).mpr (by rw [bt_nI (by omega)]; exact hb)) ?_
      refine zw.e (zgr_at o1 o3.1) ?_
      refine zw.e (zil_v o3.2 rfl (by omega) (by decide) (hnd k (by omega))) ?_
      refine zw.it (fun c => ?_) (fun c => skip fun t q => c (by have := q.2.1.2; rw [q.2.2] at this; exact this))
      have e0 : nI d ||| ((1 : Int32) <<< (nI k &&& 31)) = nI (rmv d k) := by rw [sh_pow k (by omega), fa_or, or_rmv hb]
      rw [e0]
      have hkn : 2 ^ k < 2 ^ n := Nat.pow_lt_pow_right (by decide) (by omega)
      have hr : rmv d k < 2 ^ n := Nat.xor_lt_two_pow hd hkn
      have hbr : (rmv d k).testBit k = true := by rw [rmv_bit, hb]; simp
      have hne : rmv d k ≠ d := fun q => by rw [q, hb] at hbr; cases hbr
      have hn0 : rmv d k ≠ 0 := fun q => by rw [q] at hbr; simp at hbr
      refine zw.e (zgr_at o1 o2.1) ?_
      refine zw.e (zll_v o2.2 (by omega) (by omega) (g _ hr)) ?_
      refine zw.e (zgr_at o1 o2.1) ?_
      refine zw.e (zll_v (x := lN (wys n nd d)) o2.2 (by omega) (by omega) (by rw [g d hd, puW_full (Nat.le_refl _)])) ?_
      refine zw.e (zls_at o2.2 (by omega) (by omega)) ?_
      refine ih (m - 1) _ (by omega) ⟨k + 1, _, by omega, by rw [nI_1 k], fun t ht => ?_⟩
      rw [puW_step (by omega)]
      by_cases e : t = rmv d k
      · rw [e, zu_s, lN_add, if_pos ⟨hn0, ⟨hbr, by rw [rmv_rmv]; exact c⟩, rmv_rmv d k⟩]
      · rw [zu_o (fun q => e q.2), if_neg (fun q => e (by rw [← q.2.2, rmv_rmv]))]
        exact g t ht
theorem c_fillL {a n : Nat} {x : Int64} (hk : K a = some (10, n)) (hn : n < 2 ^ 31) (hN : n < N) : zw (fJ7_fill_d0a16 N (K, iv, rv, lv) a x) (fun q => ∃ lv', q = (K, iv, rv, lv') ∧ ∀ j, j < n → lv' a j = x) := by
  unfold fJ7_fill_d0a16 fJ7_fill_d0a16_0
  refine zw.e (zln_at hk) ?_
  unfold lJ7_fill_d0a16_6
  refine zw.loop (fun m y => ∃ k lv1, k + m = n ∧ y = ((K, iv, rv, lv1), a, x, nI k, nI n) ∧ ∀ j, j < k → lv1 a j = x) ?_ N n _ hN ⟨0, lv, by omega, rfl, fun j hj => by omega⟩
  rintro m ⟨S, x0, x1, x2, x3⟩ Kc ⟨k, lv1, hkm, hy, g⟩ ih
  cases hy
  dsimp only
  unfold fJ7_fill_d0a16_6
  by_cases hm : m = 0
  · exact zw.t (nI_le (by omega) (by omega)) (zw.s ⟨lv1, rfl, fun j hj => g j (by omega)⟩)
  · refine zw.f (nI_ge (show k < n by omega) (by omega)) ?_
    refine zw.e (zls_at hk (by omega) hn) ?_
    refine ih (m - 1) _ (by omega) ⟨k + 1, _, by omega, by rw [nI_1 k], fun j hj => ?_⟩
    by_cases e : j = k
    · rw [e, zu_s]
    · rw [zu_o (by omega)]; exact g j (by omega)
/-- all sets one behind the other -/
theorem c_allSets {n MC MS q w : Nat} {nd : Nat → Int32} (hO : cOrd b wa wn K rv) (hn : n ≤ 15) (hw : 2 ^ n ≤ wn) (hnd : ∀ k, k < n → iv (b + 178) k = nd k) (hq : q ≤ MC ∧ w ≤ MS) (hN : 70000 < N) :
    zw (fX3_ordersOf_30 N MC MS (K, iv, rv, lv) z q w (b + 176) (nI n) (nI (2 ^ n))) (fun p => p.1 = lN (wys n nd (2 ^ n - 1)) ∧ ∃ lv', p.2 = ((K, iv, rv, lv'), z)) := by
  have hO2 := hO
  obtain ⟨o1, o2, o3, o4, o5, o6⟩ := hO
  have hp : 2 ^ n ≤ 32768 := Nat.pow_le_pow_right (n := 2) (by decide) hn
  have hp0 : 0 < 2 ^ n := Nat.two_pow_pos n
  have hbud : zbud MC MS q w 0 0 = some () := if_pos ⟨hq.1, hq.2⟩
  unfold fX3_ordersOf_30
  refine zw.e (zgr_at o1 o2.1) ?_
  refine zw.e hbud ?_
  refine zw.c (c_fillL o2.2 (by omega) (by omega)) ?_
  rintro S ⟨lv1, rfl, g1⟩
  refine zw.e (zgr_at o1 o2.1) ?_
  refine zw.e (show zls (K, iv, rv, lv1) wa (0 : Int32) (1 : Int64) = some (K, iv, rv, zu lv1 wa 0 1) from zls_at (i := 0) o2.2 (by omega) (by omega)) ?_
  unfold lX3_ordersOf_48
  refine zw.loop (fun m y => ∃ d lv2, d + m = 2 ^ n ∧ y = ((K, iv, rv, lv2), z, q, w, b + 176, nI n, nI (2 ^ n), nI d) ∧ ∀ t, t < 2 ^ n → lv2 wa t = lN (puW n nd d 0 t)) ?_ N (2 ^ n) _ (by omega) ⟨0, _, by omega, rfl, fun t ht => by
    rw [puW_0]
    by_cases e : t = 0
    · rw [if_pos e, e, zu_s]; rfl
    · rw [if_neg e, zu_o (by omega), g1 t (by omega)]; rfl⟩
  rintro m ⟨S, y0, y1, y2, y3, y4, y5, y6⟩ Kc ⟨d, lv2, hd, hy, g⟩ ih
  cases hy
  dsimp only
  unfold fX3_ordersOf_48 fX3_ordersOf_74
  by_cases hm : m = 0
  · refine zw.t (nI_le (by omega) (by omega)) ?_
    refine zw.e (zgr_at o1 o2.1) ?_
    rw [show nI (2 ^ n) - (1 : Int32) = nI (2 ^ n - 1) from nI_sub (b := 1) hp0]
    refine zw.e (zll_v (x := lN (wys n nd (2 ^ n - 1))) o2.2 (by omega) (by omega) (by rw [g _ (by omega), puW_full (by omega)])) ?_
    have hfin : zfin MC MS q w (lN (wys n nd (2 ^ n - 1)), ((K, iv, rv, lv2) : zS), z) = some (lN (wys n nd (2 ^ n - 1)), (K, iv, rv, lv2), z) := if_pos hq
    rw [hfin]
    exact zw.s ⟨rfl, lv2, rfl⟩
  · refine zw.f (nI_ge (show d < 2 ^ n by omega) (by omega)) ?_
    refine zw.e (zgr_at o1 o2.1) ?_
    refine zw.e (zll_v (x := lN (wys n nd d)) o2.2 (by omega) (by omega) (by rw [g d (by omega), puW_full (Nat.le_refl _)])) ?_
    refine zw.it (fun c => ?_) (fun c => ?_)
    · have c2 := (lg_cmp_eq _ _).mp c
      exact ih (m - 1) _ (by omega) ⟨d + 1, lv2, by omega, by rw [nI_1 d], fun t ht => by rw [puW_skip c2]; exact g t ht⟩
    · refine zw.e hbud ?_
      refine zw.e (zrc_at o1) ?_
      refine zw.c (c_doOne hO2 hn hw (show d < 2 ^ n by omega) hnd g (by omega)) ?_
      rintro S ⟨lv3, rfl, g3⟩
      exact ih (m - 1) _ (by omega) ⟨d + 1, lv3, by omega, by rw [nI_1 d], g3⟩
end C14
