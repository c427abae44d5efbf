/-! the model: make, build -/
section M8
variable {N b : Nat} {K : Nat → Option (Nat × Nat)} {iv : Nat → Nat → Int32} {rv : Nat → Nat → Option Nat} {lv : Nat → Nat → Int64}
variable {tp : List Int32} {nt : Nat} {tx : Nat → List Int32} {lk : Nat → Bool} {ns : Nat} {tl : Nat → Nat} {pa : Nat → Int32} {pb : Nat → Nat} {ins : Nat → List Nat} {wd : Nat → Nat → Int32}
/-- since iv0 only the thing at p may have changed, and scratch -/
def mO (b p : Nat) (iv0 iv : Nat → Nat → Int32) : Prop := fM b [12, 13, 14, 15] [18] iv0 iv ∧ (∀ j, j ≠ p → iv (b + 12) j = iv0 (b + 12) j) ∧ ∀ j, (j < 200 * p ∨ 200 * p + 200 ≤ j) → iv (b + 13) j = iv0 (b + 13) j
theorem mO.st {p : Nat} {iv0 iv1 iv2 : Nat → Nat → Int32} (h : mO b p iv0 iv1) (hf : fM b [14, 15] [18] iv1 iv2) : mO b p iv0 iv2 :=
  ⟨h.1.tr (hf.mo (by simp) (by simp)), fun j hj => by rw [hf.arr (by decide) (by decide)]; exact h.2.1 j hj, fun j hj => by rw [hf.arr (by decide) (by decide)]; exact h.2.2 j hj⟩
theorem mO.mS {p q : Nat} {iv0 iv1 : Nat → Nat → Int32} {o : Option (List Int32)} (h : mO b p iv0 iv1) (hq : q ≠ p) (hs : mS b iv0 q o) (hg : ∀ L, o = some L → L.length ≤ 200) : mS b iv1 q o := by
  cases o with
  | none => show iv1 (b + 12) q = -1; rw [h.2.1 q hq]; exact hs
  | some L =>
    have := hg L rfl
    refine ⟨by rw [h.2.1 q hq]; exact hs.1, hs.2.eq fun k hk => h.2.2 _ ?_⟩
    rcases Nat.lt_or_gt_of_ne hq with h1 | h1 <;> omega
theorem m_make_end {p : Nat} {J : List Int32} {iv0 : Nat → Nat → Int32} (hL : mL b K rv) (hp : p < 48) (hO : mO b p iv0 iv) (h1 : iv b 18 = nI J.length) (h2 : J.length ≤ 200 → aH iv (b + 14) 0 J) (h3 : iv (b + 12) p = -1) (h4 : J.length ≤ 801) (hN : 300 < N) :
    zw (fX8_make_195 N (K, iv, rv, lv) b (nI p)) (fun q => ∃ iv', q = (K, iv', rv, lv) ∧ mO b p iv0 iv' ∧ mS b iv' p (if 200 < J.length then none else some J)) := by
  unfold fX8_make_195
  refine zw.e (zgi_v hL.o h1) ?_
  by_cases h : J.length ≤ 200
  · refine zw.t (nI_le h (by decide)) ?_
    have hJ := h2 h
    refine zw.e (zgr_at hL.o hL.r_size) ?_
    refine zw.e (zgi_v hL.o h1) ?_
    refine zw.e (zis_v hL.k_size rfl hp (by decide)) ?_
    rw [if_neg (show ¬ 200 < J.length by omega)]
    unfold lX8_make_219
    refine zw.loop (fun m y => ∃ k iv1, k + m = J.length ∧ y = ((K, iv1, rv, lv), b, nI p, nI k) ∧ mO b p iv0 iv1 ∧ iv1 b 18 = nI J.length ∧ aH iv1 (b + 14) 0 J ∧ iv1 (b + 12) p = nI J.length ∧ aH iv1 (b + 13) (200 * p) (J.take k)) ?_ N J.length _ (by omega) ⟨0, _, by omega, rfl, ⟨hO.1.put (r := 12) (by simp) _ _, fun j hj => by rw [zu_o (by omega)]; exact hO.2.1 j hj, fun j hj => by rw [zu_o (by omega)]; exact hO.2.2 j hj⟩, by rw [zu_o (by omega)]; exact h1, hJ.ne (by omega), zu_s, aH.nil⟩
    rintro m ⟨S, x0, x3, x4⟩ Kc ⟨k, iv1, hk, hy, g0, g1, g2, g3, g4⟩ ih
    cases hy
    dsimp only
    unfold fX8_make_219
    refine zw.e (zgi_v hL.o g1) ?_
    by_cases hm : m = 0
    · have : k = J.length := by omega
      subst this
      rw [List.take_length] at g4
      exact zw.t (Int32.le_refl _) (zw.s ⟨iv1, rfl, g0, g3, g4⟩)
    · refine zw.f (nI_ge (show k < J.length by omega) (by omega)) ?_
      have hkv := g2 k (by omega)
      rw [Nat.zero_add] at hkv
      refine zw.e (zgr_at hL.o hL.r_bytes) ?_
      refine zw.e (zgr_at hL.o hL.r_joined) ?_
      refine zw.e (zil_v hL.k_joined rfl (by omega) (by decide) hkv) ?_
      refine zw.e (zis_v (j := 200 * p + k) hL.k_bytes (by rw [← nI_add, ← nI_mul]; rfl) (by omega) (by decide)) ?_
      refine ih (m - 1) _ (by omega) ⟨k + 1, _, by omega, by rw [nI_1 k], ⟨g0.1.put (r := 13) (by simp) _ _, fun j hj => by rw [zu_o (by omega)]; exact g0.2.1 j hj, fun j hj => by rw [zu_o (by omega)]; exact g0.2.2 j hj⟩, by rw [zu_o (by omega)]; exact g1, g2.ne (by omega), by rw [zu_o (by omega)]; exact g3, ?_⟩
      rw [take_snoc (show k < J.length by omega)]
      have h9 := g4.snoc (J.getD k 0)
      rw [List.length_take, Nat.min_eq_left (by omega)] at h9
      exact h9
  · refine zw.f (nI_ge (show 200 < J.length by omega) (by omega)) (zw.s ⟨iv, rfl, hO, ?_⟩)
    rw [if_pos (show 200 < J.length by omega)]
    exact h3
theorem m_mask {p s : Nat} {J : List Int32} {iv0 : Nat → Nat → Int32} (hL : mL b K rv) (hp : p < 48) (hs : s < 24) (hO : mO b p iv0 iv) (hJ : mJ b iv J) (ha : iv (b + 7) s = pa s) (h3 : iv (b + 12) p = -1) (h4 : J.length ≤ 200) (hN : 300 < N) :
    zw (lX8_make_150 N (K, iv, rv, lv) b (nI s) (nI p) 0) (fun q => ∃ iv', q = (K, iv', rv, lv) ∧ mO b p iv0 iv' ∧ mS b iv' p (some (J.map fun x => x ^^^ pa s))) := by
  unfold lX8_make_150
  refine zw.loop (fun m y => ∃ k iv1, k + m = J.length ∧ y = ((K, iv1, rv, lv), b, nI s, nI p, nI k) ∧ mO b p iv0 iv1 ∧ iv1 b 18 = nI J.length ∧ aH iv1 (b + 14) 0 ((J.take k).map fun x => x ^^^ pa s) ∧ (∀ j, k ≤ j → j < J.length → iv1 (b + 14) j = J.getD j 0) ∧ iv1 (b + 7) s = pa s ∧ iv1 (b + 12) p = -1) ?_ N J.length _ (by omega) ⟨0, iv, by omega, rfl, hO, hJ.1, aH.nil, fun j _ hj => by have := hJ.2 j hj; rwa [Nat.zero_add] at this, ha, h3⟩
  rintro m ⟨S, x0, x2, x3, x4⟩ Kc ⟨k, iv1, hk, hy, g0, g1, g2, g3, g4, g5⟩ ih
  cases hy
  dsimp only
  unfold fX8_make_150
  refine zw.e (zgi_v hL.o g1) ?_
  by_cases hm : m = 0
  · have : k = J.length := by omega
    subst this
    rw [List.take_length] at g2
    refine zw.t (Int32.le_refl _) ?_
    refine zw.imp (m_make_end (J := J.map fun x => x ^^^ pa s) hL hp g0 (by rw [List.length_map]; exact g1) (fun _ => g2) g5 (by rw [List.length_map]; omega) hN) ?_
    rintro q ⟨iv', e1, e2, e3⟩
    rw [List.length_map, if_neg (by omega)] at e3
    exact ⟨iv', e1, e2, e3⟩
  · refine zw.f (nI_ge (show k < J.length by omega) (by omega)) ?_
    refine zw.e (zgr_at hL.o hL.r_joined) ?_
    refine zw.e (zil_v hL.k_joined rfl (by omega) (by decide) (g3 k (Nat.le_refl _) (by omega))) ?_
    refine zw.e (zgr_at hL.o hL.r_a) ?_
    refine zw.e (zil_v hL.k_a rfl (by omega) (by decide) g4) ?_
    refine zw.e (zis_v hL.k_joined rfl (by omega) (by decide)) ?_
    refine ih (m - 1) _ (by omega) ⟨k + 1, _, by omega, by rw [nI_1 k], g0.st (fM.rf.put (r := 14) (by simp) _ _), by rw [zu_o (by omega)]; exact g1, ?_, fun j h1 h2 => by rw [zu_o (by omega)]; exact g3 j (by omega) h2, by rw [zu_o (by omega)]; exact g4, by rw [zu_o (by omega)]; exact g5⟩
    rw [take_snoc (show k < J.length by omega), List.map_append]
    have h9 := g2.snoc (J.getD k 0 ^^^ pa s)
    rw [List.length_map, List.length_take, Nat.min_eq_left (by omega), Nat.zero_add] at h9
    exact h9
theorem m_make {hf s : Nat} {f : Nat → Option (List Int32)} {h : Nat → Int32} (hL : mL b K rv) (hT : mT b iv tp nt tx lk) (hdT : dT tp nt tx lk) (hP : mP b iv ns tl pa pb ins) (hdP : dP nt ns tl pa pb ins) (hs : s < ns) (hh : hf < 2) (hS : ∀ j, j < s → mS b iv (24 * hf + j) (f j)) (hg : ∀ j L, f j = some L → gT L) (hH : mHd b iv h) (hw : ∀ w, w < 8 → isB (h w)) (hN : 3000 < N) :
    zw (fX8_make N (K, iv, rv, lv) b (nI hf) (nI s)) (fun q => ∃ iv', q = (K, iv', rv, lv) ∧ mO b (24 * hf + s) iv iv' ∧ mS b iv' (24 * hf + s) (mk tx lk tl pa pb ins h f s)) := by
  have hn := hdP.1
  obtain ⟨ht7, hpaB, hpb8, hl4, hok⟩ := hdP.2 s hs
  have hix : (24 : Int32) * nI hf + nI s = nI (24 * hf + s) := by rw [← nI_add, ← nI_mul]; rfl
  have hp : 24 * hf + s < 48 := by omega
  unfold fX8_make fX8_make_0
  simp only [hix]
  generalize hpp : 24 * hf + s = p at hp
  refine zw.e (zgr_at hL.o hL.r_size) ?_
  refine zw.e (zis_v hL.k_size rfl hp (by decide)) ?_
  have hO1 : mO b p iv (zu iv (b + 12) p (-1)) := ⟨fM.rf.put (r := 12) (by simp) _ _, fun j hj => zu_o (by omega), fun j hj => zu_o (by omega)⟩
  have h31 : zu iv (b + 12) p (-1) (b + 12) p = -1 := zu_s
  generalize zu iv (b + 12) p (-1) = iv1 at hO1 h31
  have hT1 := hT.fr hO1.1 (by decide) (by decide)
  have hP1 := hP.fr hO1.1 (by decide) (by decide)
  have hH1 := hH.fr hO1.1 (by decide)
  have hS1 : ∀ j, j < s → mS b iv1 (24 * hf + j) (f j) := fun j hj => hO1.mS (by omega) (hS j hj) (fun L e => (hg j L e).1)
  refine zw.e (zrc_at hL.o) ?_
  refine zw.c2 (m_isReady hL hT1 hdT hP1 hdP hs hh hS1 hg (by omega)) ?_
  intro v S hvS
  cases hvS
  by_cases hr : ins s ≠ [] ∧ srcs (src tx lk f) (ins s) ≠ none
  · rw [if_pos hr]
    refine zw.f (by decide) ?_
    obtain ⟨Ls, hLs⟩ := Option.ne_none_iff_exists'.mp hr.2
    have hmk : mk tx lk tl pa pb ins h f s = mkT (tl s) (pa s) (h (pb s)) Ls := by
      unfold mk
      rw [if_neg hr.1, hLs]
      rfl
    rw [hmk]
    have hgL : ∀ L ∈ Ls, gT L := srcs_all hLs (fun i hi L e => src_good hdT hg (by rcases hok i hi with q | q <;> omega) e)
    have hlen := srcs_len hLs
    refine zw.e (zrc_at hL.o) ?_
    refine zw.c (m_join hL hT1 hdT hP1 hdP hs hh hS1 hg hH1 hw hr.1 hLs (by omega)) ?_
    rintro S ⟨iv2, rfl, hf2, hJ⟩
    have hO2 := hO1.st (hf2.mo (by simp) (by simp))
    have h32 : iv2 (b + 12) p = -1 := by rw [hf2.arr (by decide) (by decide)]; exact h31
    have hP2 := hP1.fr hf2 (by decide) (by decide)
    have hH2 := hH1.fr hf2 (by decide)
    have hBJ : ∀ x ∈ joT (tl s) (pa s) (h (pb s)) Ls, isB x := by
      intro x hx
      unfold joT at hx
      split at hx
      · split at hx
        · cases Ls with
          | nil => cases hx
          | cons y r => exact (hgL y List.mem_cons_self).2 x hx
        · rw [List.getLastD_eq_getLast?] at hx
          cases hq : Ls.getLast? with
          | none => rw [hq] at hx; cases hx
          | some y => rw [hq] at hx; exact (hgL y (List.mem_of_getLast? hq)).2 x hx
      · obtain ⟨L, h1, h2⟩ := jn_mem hx
        exact (hgL L h1).2 x h2
    have h5le : tl s = 5 → (joT (tl s) (pa s) (h (pb s)) Ls).length ≤ 200 := by
      intro h5
      unfold joT
      rw [if_pos h5]
      split
      · cases Ls with
        | nil => simp
        | cons y r => exact (hgL y List.mem_cons_self).1
      · rw [List.getLastD_eq_getLast?]
        cases hq : Ls.getLast? with
        | none => simp
        | some y => exact (hgL y (List.mem_of_getLast? hq)).1
    have h8 : (joT (tl s) (pa s) (h (pb s)) Ls).length ≤ 800 := by
      by_cases h5 : tl s = 5
      · have := h5le h5; omega
      · unfold joT
        rw [if_neg h5, jn_len]
        have := flat_le (fun L hl => (hgL L hl).1)
        have h4 : Ls.length ≤ 4 := by omega
        omega
    have hmT : mkT (tl s) (pa s) (h (pb s)) Ls = if 200 < (joT (tl s) (pa s) (h (pb s)) Ls).length then none else if tl s = 5 then some (joT (tl s) (pa s) (h (pb s)) Ls) else appT (tl s) (pa s) (h (pb s)) (joT (tl s) (pa s) (h (pb s)) Ls) := by
      by_cases h5 : tl s = 5
      · rw [if_neg (by have := h5le h5; omega), if_pos h5]
        unfold mkT joT
        rw [if_pos h5, if_pos h5]
      · rw [if_neg h5]
        unfold mkT joT
        rw [if_neg h5, if_neg h5]
    rw [hmT]
    generalize joT (tl s) (pa s) (h (pb s)) Ls = J at hJ hBJ h8
    refine zw.e (zgi_v hL.o hJ.1) ?_
    by_cases h2 : J.length ≤ 200
    · rw [if_neg (show ¬ 200 < J.length by omega)]
      refine zw.t (nI_le h2 (by decide)) ?_
      refine zw.e (zgr_at hL.o hL.r_tool) ?_
      refine zw.e (zil_v hL.k_tool rfl (by omega) (by decide) (hP2.2.1 s hs)) ?_
      have fin : ∀ (iv3 : Nat → Nat → Int32) (J' : List Int32), mO b p iv iv3 → iv3 (b + 12) p = -1 → mJ b iv3 J' → J'.length ≤ 200 → zw (fX8_make_195 N (K, iv3, rv, lv) b (nI p)) (fun q => ∃ iv', q = (K, iv', rv, lv) ∧ mO b p iv iv' ∧ mS b iv' p (some J')) := by
        intro iv3 J' q1 q2 q3 q4
        refine zw.imp (m_make_end (J := J') hL hp q1 q3.1 (fun _ => q3.2) q2 (by omega) (by omega)) ?_
        rintro q ⟨iv', e1, e2, e3⟩
        rw [if_neg (by omega)] at e3
        exact ⟨iv', e1, e2, e3⟩
      have ne : ∀ k : Nat, k ≤ 7 → tl s ≠ k → ¬ nI (tl s) = nI k := fun k hk q z => q ((nI_eq (by omega) (by omega)).mp z)
      unfold fX8_make_88
      by_cases c0 : tl s = 0
      · rw [c0]
        refine zw.t rfl ?_
        exact fin iv2 J hO2 h32 hJ h2
      refine zw.f (ne 0 (by decide) c0) ?_
      by_cases c1 : tl s = 1
      · rw [c1]
        refine zw.t rfl ?_
        refine zw.e (zgi_v hL.o hJ.1) ?_
        rw [if_neg (show ¬ (1 : Nat) = 5 by decide)]
        unfold appT
        rw [if_pos rfl]
        unfold fX8_make_121
        by_cases hlt : J.length < 200
        · rw [if_pos hlt]
          refine zw.f (nI_ge hlt (by decide)) ?_
          refine zw.e (zgr_at hL.o hL.r_joined) ?_
          refine zw.e (zgi_v hL.o hJ.1) ?_
          refine zw.e (zgr_at hL.o hL.r_hand) ?_
          refine zw.e (zgr_at hL.o hL.r_b) ?_
          refine zw.e (zil_v hL.k_b rfl (by omega) (by decide) (hP2.2.2.2.1 s hs)) ?_
          refine zw.e (zil_v hL.k_hand rfl hpb8 (by decide) (hH2 _ hpb8)) ?_
          refine zw.e (zis_v hL.k_joined rfl (by omega) (by decide)) ?_
          refine zw.e (zgi_v (x := nI J.length) hL.o (by rw [zu_o (by omega)]; exact hJ.1)) ?_
          refine zw.e (zpi_at hL.o) ?_
          have h9 := (hJ.2.snoc (h (pb s))).ne (a' := b) (i := 18) (x := nI J.length + 1) (by omega)
          rw [Nat.zero_add] at h9
          exact fin _ (J ++ [h (pb s)]) (hO2.st ((fM.rf.put (r := 14) (by simp) _ _).puf (by simp) _)) (by rw [zu_o (by omega), zu_o (by omega)]; exact h32) ⟨by rw [zu_s, nI_1, len_snoc], h9⟩ (by rw [len_snoc]; omega)
        · rw [if_neg hlt]
          have h200 : J.length = 200 := by omega
          refine zw.t (by rw [h200]; decide) ?_
          refine zw.e (zgi_v hL.o hJ.1) ?_
          refine zw.e (zpi_at hL.o) ?_
          refine zw.imp (m_make_end (J := J ++ [0]) hL hp (hO2.st (fM.rf.puf (by simp) _)) (by rw [zu_s, nI_1, len_snoc]) (fun q => by rw [len_snoc] at q; omega) (by rw [zu_o (by omega)]; exact h32) (by rw [len_snoc]; omega) (by omega)) ?_
          rintro q ⟨iv', e1, e2, e3⟩
          rw [len_snoc, if_pos (by omega)] at e3
          exact ⟨iv', e1, e2, e3⟩
      refine zw.f (ne 1 (by decide) c1) ?_
      by_cases c2 : tl s = 2
      · rw [c2]
        refine zw.t rfl ?_
        exact fin iv2 J hO2 h32 hJ h2
      refine zw.f (ne 2 (by decide) c2) ?_
      by_cases c3 : tl s = 3
      · rw [c3]
        refine zw.t rfl ?_
        refine zw.e (zgr_at hL.o hL.r_a) ?_
        refine zw.e (zil_v hL.k_a rfl (by omega) (by decide) (hP2.2.2.1 s hs)) ?_
        refine zw.e (zrc_at hL.o) ?_
        refine zw.c (m_strip hL hJ (by omega) (by omega)) ?_
        rintro S ⟨iv3, rfl, q1, q2⟩
        exact fin iv3 _ (hO2.st (q1.mo (by simp) (by simp))) (by rw [q1.arr (by decide) (by decide)]; exact h32) q2 (Nat.le_trans (List.length_filter_le _ _) h2)
      refine zw.f (ne 3 (by decide) c3) ?_
      by_cases c4 : tl s = 4
      · rw [c4]
        refine zw.t rfl ?_
        exact m_mask hL hp (by omega) hO2 hJ (hP2.2.2.1 s hs) h32 h2 (by omega)
      refine zw.f (ne 4 (by decide) c4) ?_
      by_cases c5 : tl s = 5
      · rw [c5]
        refine zw.t rfl ?_
        exact fin iv2 J hO2 h32 hJ h2
      refine zw.f (ne 5 (by decide) c5) ?_
      by_cases c6 : tl s = 6
      · rw [c6]
        refine zw.t rfl ?_
        refine zw.e (zrc_at hL.o) ?_
        refine zw.c (m_sort hL hJ hBJ (by omega) (by omega)) ?_
        rintro S ⟨iv3, rfl, q1, q2, q3⟩
        have hsl := tSort_len J hBJ
        exact fin iv3 (tSort J) (hO2.st (q1.mo (by simp) (by simp))) (by rw [q1.arr (by decide) (by decide)]; exact h32) ⟨by rw [hsl]; exact q2, q3⟩ (by omega)
      refine zw.f (ne 6 (by decide) c6) ?_
      have c7 : tl s = 7 := by omega
      rw [c7]
      refine zw.e (zrc_at hL.o) ?_
      refine zw.c (m_sign hL hJ (by omega) (by omega)) ?_
      rintro S ⟨iv3, rfl, q1, q2⟩
      exact fin iv3 (tSign J) (hO2.st (q1.mo (by simp) (by simp))) (by rw [q1.arr (by decide) (by decide)]; exact h32) q2 (by show 4 ≤ 200; decide)
    · rw [if_pos (show 200 < J.length by omega)]
      exact zw.f (nI_ge (show 200 < J.length by omega) (by omega)) (zw.s ⟨iv2, rfl, hO2, h32⟩)
  · rw [if_neg hr]
    refine zw.t rfl (zw.s ⟨iv1, rfl, hO1, ?_⟩)
    have hmk : mk tx lk tl pa pb ins h f s = none := by
      unfold mk
      by_cases h0 : ins s = []
      · rw [if_pos h0]
      · rw [if_neg h0]
        have : srcs (src tx lk f) (ins s) = none := by
          cases hq : srcs (src tx lk f) (ins s) with
          | none => rfl
          | some Ls => exact absurd ⟨h0, by rw [hq]; simp⟩ hr
        rw [this]
        rfl
    rw [hmk]
    exact h31
end M8
