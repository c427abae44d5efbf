/-! the model: sort, sign, mask, make, build -/
section M7
variable {N b : Nat} {K : Nat → Option (Nat × Nat)} {iv : Nat → Nat → Int32} {rv : Nat → Nat → Option Nat} {lv : Nat → Nat → Int64}
variable {tp : List Int32} {nt : Nat} {tx : Nat → List Int32} {lk : Nat → Bool} {ns : Nat} {tl : Nat → Nat} {pa : Nat → Int32} {pb : Nat → Nat} {ins : Nat → List Nat} {wd : Nat → Nat → Int32}
/-- the sorted list up to value v, with i of v itself -/
def soP (J : List Int32) (v : Nat) : List Int32 := (List.range v).flatMap fun u => List.replicate (J.count (nI u)) (nI u)
theorem soP_succ (J : List Int32) (v : Nat) : soP J (v + 1) = soP J v ++ List.replicate (J.count (nI v)) (nI v) := by
  simp [soP, List.range_succ]
theorem soP_le (J : List Int32) (hJ : ∀ x ∈ J, isB x) {v : Nat} (hv : v ≤ 256) : (soP J v).length ≤ J.length := by
  have h1 : ∀ n, (soP J n).length = fb_sm (fun v => J.count (nI v)) n := by
    intro n
    induction n with
    | zero => rfl
    | succ n ih => rw [soP_succ, List.length_append, ih, fb_sm_succ, List.length_replicate]
  have h2 := tSort_len J hJ
  have h3 : (tSort J).length = fb_sm (fun v => J.count (nI v)) 256 := h1 256
  have h4 := fb_sm_mono (fun v => J.count (nI v)) v (256 - v)
  rw [show v + (256 - v) = 256 by omega] at h4
  rw [h1 v]
  omega
theorem m_sort {J : List Int32} (hL : mL b K rv) (hJ : mJ b iv J) (hB : ∀ x ∈ J, isB x) (h8 : J.length ≤ 800) (hN : 2000 < N) : zw (fX8_sort N (K, iv, rv, lv) b) (fun q => ∃ iv', q = (K, iv', rv, lv) ∧ fM b [14, 15] [] iv iv' ∧ iv' b 18 = nI J.length ∧ aH iv' (b + 14) 0 (tSort J)) := by
  unfold fX8_sort fX8_sort_0 lX8_sort_2
  refine zw.loop (fun m y => ∃ k iv1, k + m = 256 ∧ y = ((K, iv1, rv, lv), b, nI k) ∧ fM b [15] [] iv iv1 ∧ ∀ v, v < k → iv1 (b + 15) v = 0) ?_ N 256 _ (by omega) ⟨0, iv, by omega, rfl, fM.rf, fun v hv => by omega⟩
  rintro m ⟨S, x0, x1⟩ Kc ⟨k, iv1, hk, hy, hfr, g⟩ ih
  cases hy
  dsimp only
  unfold fX8_sort_2
  by_cases hm : m = 0
  · have : k = 256 := by omega
    subst this
    refine zw.t (by decide) ?_
    clear ih
    have hJ1 : mJ b iv1 J := ⟨by rw [hfr.fld (by decide) (by decide)]; exact hJ.1, hJ.2.eq fun k _ => hfr.arr (by decide) (by decide) _⟩
    unfold lX8_sort_24
    refine zw.loop (fun m y => ∃ k iv2, k + m = J.length ∧ y = ((K, iv2, rv, lv), b, nI k) ∧ fM b [15] [] iv1 iv2 ∧ ∀ v, v < 256 → iv2 (b + 15) v = nI ((J.take k).count (nI v))) ?_ N J.length _ (by omega) ⟨0, iv1, by omega, rfl, fM.rf, fun v hv => by rw [g v hv]; rfl⟩
    rintro m ⟨S, x0, x1⟩ Kc ⟨k, iv2, hk, hy, hfr2, g2⟩ ih
    cases hy
    dsimp only
    unfold fX8_sort_24
    have hJ2 : mJ b iv2 J := ⟨by rw [hfr2.fld (by decide) (by decide)]; exact hJ1.1, hJ1.2.eq fun k _ => hfr2.arr (by decide) (by decide) _⟩
    refine zw.e (zgi_v hL.o hJ2.1) ?_
    by_cases hm : m = 0
    · have : k = J.length := by omega
      subst this
      rw [List.take_length] at g2
      refine zw.t (Int32.le_refl _) ?_
      clear ih
      unfold lX8_sort_57
      refine zw.loop (fun m y => ∃ v iv3, v + m = 256 ∧ y = ((K, iv3, rv, lv), b, nI (soP J v).length, nI v) ∧ fM b [14] [] iv2 iv3 ∧ aH iv3 (b + 14) 0 (soP J v)) ?_ N 256 _ (by omega) ⟨0, iv2, by omega, rfl, fM.rf, aH.nil⟩
      rintro m ⟨S, x0, x1, x2⟩ Kc ⟨v, iv3, hv, hy, hfr3, g3⟩ ih
      cases hy
      dsimp only
      unfold fX8_sort_57
      by_cases hm : m = 0
      · have : v = 256 := by omega
        subst this
        refine zw.t (by decide) (zw.s ⟨iv3, rfl, ((hfr.mo (by simp) (by simp)).tr (hfr2.mo (by simp) (by simp))).tr (hfr3.mo (by simp) (by simp)), by rw [hfr3.fld (by decide) (by decide)]; exact hJ2.1, g3⟩)
      · refine zw.f (nI_ge (show v < 256 by omega) (by decide)) ?_
        have hle := soP_le J hB (show v + 1 ≤ 256 by omega)
        rw [soP_succ, List.length_append, List.length_replicate] at hle
        unfold lX8_sort_66
        refine zw.loop (fun m2 y => ∃ i iv4, i + m2 = J.count (nI v) ∧ y = ((K, iv4, rv, lv), b, nI ((soP J v).length + i), nI v, nI i) ∧ fM b [14] [] iv2 iv4 ∧ aH iv4 (b + 14) 0 (soP J v ++ List.replicate i (nI v))) ?_ N (J.count (nI v)) _ (by omega) ⟨0, iv3, by omega, rfl, hfr3, by simpa using g3⟩
        rintro m2 ⟨S, x0, x1, x2, x3⟩ Kc2 ⟨i, iv4, hi, hy2, hfr4, g4⟩ ih2
        cases hy2
        dsimp only
        unfold fX8_sort_66
        refine zw.e (zgr_at hL.o hL.r_ofByte) ?_
        refine zw.e (zil_v (x := nI (J.count (nI v))) hL.k_ofByte rfl (by omega) (by decide) (by rw [hfr4.arr (by decide) (by decide)]; exact g2 v (by omega))) ?_
        by_cases hm2 : m2 = 0
        · have : i = J.count (nI v) := by omega
          subst this
          refine zw.t (Int32.le_refl _) ?_
          refine ih (m - 1) _ (by omega) ⟨v + 1, iv4, by omega, ?_, hfr4, by rw [soP_succ]; exact g4⟩
          rw [nI_1 v, soP_succ, List.length_append, List.length_replicate]
        · refine zw.f (nI_ge (show i < J.count (nI v) by omega) (by omega)) ?_
          refine zw.e (zgr_at hL.o hL.r_joined) ?_
          refine zw.e (zis_v hL.k_joined rfl (by omega) (by decide)) ?_
          refine ih2 (m2 - 1) _ (by omega) ⟨i + 1, _, by omega, by rw [nI_1 i, nI_1 ((soP J v).length + i)]; rfl, hfr4.put (r := 14) (by simp) _ _, ?_⟩
          have h9 := g4.snoc (nI v)
          rw [Nat.zero_add, List.length_append, List.length_replicate, List.append_assoc] at h9
          rw [List.replicate_succ']
          exact h9
    · refine zw.f (nI_ge (show k < J.length by omega) (by omega)) ?_
      have hkv := hJ2.2 k (by omega)
      rw [Nat.zero_add] at hkv
      obtain ⟨u, hu, hue⟩ := hB _ (getD_mem (d := 0) (show k < J.length by omega))
      refine zw.e (zgr_at hL.o hL.r_ofByte) ?_
      refine zw.e (zgr_at hL.o hL.r_joined) ?_
      refine zw.e (zil_v (x := nI u) hL.k_joined rfl (by omega) (by decide) (by rw [hkv]; exact hue)) ?_
      refine zw.e (zil_v hL.k_ofByte rfl hu (by decide) (g2 u hu)) ?_
      refine zw.e (zis_v hL.k_ofByte rfl hu (by decide)) ?_
      refine ih (m - 1) _ (by omega) ⟨k + 1, _, by omega, by rw [nI_1 k], hfr2.put (r := 15) (by simp) _ _, fun v hv => ?_⟩
      rw [take_snoc (show k < J.length by omega), List.count_append, hue]
      by_cases e : v = u
      · rw [e, zu_s, nI_1]
        congr 1
        simp
      · have hne : ¬ nI u = nI v := fun q => e ((nI_eq (by omega) (by omega)).mp q).symm
        rw [zu_o (by omega), g2 v hv]
        congr 1
        simp [List.count_singleton, hne]
  · refine zw.f (nI_ge (show k < 256 by omega) (by decide)) ?_
    refine zw.e (zgr_at hL.o hL.r_ofByte) ?_
    refine zw.e (zis_v hL.k_ofByte rfl (by omega) (by decide)) ?_
    refine ih (m - 1) _ (by omega) ⟨k + 1, _, by omega, by rw [nI_1 k], hfr.put (r := 15) (by simp) _ _, fun v hv => ?_⟩
    by_cases e : v = k
    · rw [e, zu_s]
    · rw [zu_o (by omega)]; exact g v (by omega)
/-- a byte out of an int, by either shift -/
theorem byte_sh (x : Int32) {n : Nat} (hn : n ≤ 24) : (x >>> (nI n &&& 31)) &&& 255 = zush x (nI n) &&& 255 := by
  apply b_ext
  intro i hi
  rw [b_and, b_and, b_255]
  by_cases h8 : i < 8
  · have e1 := b_sshr n (by omega) x hi
    have e2 : bt (zush x (nI n)) i = bt x (n + i) := b_ushr n (by omega) x i
    rw [e1, e2, if_pos (by omega)]
  · simp [h8]
theorem m_sign {J : List Int32} (hL : mL b K rv) (hJ : mJ b iv J) (h8 : J.length ≤ 800) (hN : 2000 < N) : zw (fX8_sign N (K, iv, rv, lv) b) (fun q => ∃ iv', q = (K, iv', rv, lv) ∧ fM b [14] [18] iv iv' ∧ mJ b iv' (tSign J)) := by
  unfold fX8_sign fX8_sign_0 lX8_sign_5
  refine zw.loop (fun m y => ∃ k, k + m = J.length ∧ y = ((K, iv, rv, lv), b, tHash (J.take k), nI k)) ?_ N J.length _ (by omega) ⟨0, by omega, rfl⟩
  rintro m ⟨S, x0, x1, x2⟩ Kc ⟨k, hk, hy⟩ ih
  cases hy
  dsimp only
  unfold fX8_sign_5
  refine zw.e (zgi_v hL.o hJ.1) ?_
  by_cases hm : m = 0
  · have : k = J.length := by omega
    subst this
    rw [List.take_length]
    refine zw.t (Int32.le_refl _) ?_
    refine zw.e (zpi_at hL.o) ?_
    clear ih
    unfold lX8_sign_38
    refine zw.loop (fun m y => ∃ k iv1, k + m = 4 ∧ y = ((K, iv1, rv, lv), b, tHash J, nI k) ∧ fM b [14] [18] iv iv1 ∧ iv1 b 18 = 4 ∧ aH iv1 (b + 14) 0 ((tSign J).take k)) ?_ N 4 _ (by omega) ⟨0, _, by omega, rfl, fM.rf.puf (by simp) _, zu_s, aH.nil⟩
    rintro m ⟨S, x0, x1, x2⟩ Kc ⟨k, iv1, hk, hy, hfr, g1, g2⟩ ih
    cases hy
    dsimp only
    unfold fX8_sign_38
    by_cases hm : m = 0
    · have : k = 4 := by omega
      subst this
      exact zw.t (by decide) (zw.s ⟨iv1, rfl, hfr, g1, g2⟩)
    · refine zw.f (nI_ge (show k < 4 by omega) (by decide)) ?_
      refine zw.e (zgr_at hL.o hL.r_joined) ?_
      refine zw.e (zis_v hL.k_joined rfl (by omega) (by decide)) ?_
      refine ih (m - 1) _ (by omega) ⟨k + 1, _, by omega, by rw [nI_1 k], hfr.put (r := 14) (by simp) _ _, by rw [zu_o (by omega)]; exact g1, ?_⟩
      have hkl : k < (tSign J).length := by show k < 4; omega
      rw [take_snoc hkl]
      have hval : (tHash J >>> (((24 : Int32) - ((8 : Int32) * nI k)) &&& 31)) &&& 255 = (tSign J).getD k 0 := by
        rw [show (8 : Int32) * nI k = nI (8 * k) from nI_mul 8 k, show (24 : Int32) = nI 24 from rfl, nI_sub (by omega), byte_sh _ (by omega)]
        have hk4 : k < 4 := by omega
        match k, hk4 with
        | 0, _ => rfl
        | 1, _ => rfl
        | 2, _ => rfl
        | 3, _ => rfl
      rw [hval]
      have h9 := g2.snoc ((tSign J).getD k 0)
      rw [List.length_take, Nat.min_eq_left (by omega), Nat.zero_add] at h9
      exact h9
  · refine zw.f (nI_ge (show k < J.length by omega) (by omega)) ?_
    have hkv := hJ.2 k (by omega)
    rw [Nat.zero_add] at hkv
    refine zw.e (zgr_at hL.o hL.r_joined) ?_
    refine zw.e (zil_v hL.k_joined rfl (by omega) (by decide) hkv) ?_
    refine ih (m - 1) _ (by omega) ⟨k + 1, by omega, ?_⟩
    rw [nI_1 k, take_snoc (show k < J.length by omega)]
    simp only [tHash, List.foldl_append, List.foldl_cons, List.foldl_nil]
end M7
