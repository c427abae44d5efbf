/-! the model: join, strip, sort, sign -/
section M6
variable {N b : Nat} {K : Nat → Option (Nat × Nat)} {iv : Nat → Nat → Int32} {rv : Nat → Nat → Option Nat} {lv : Nat → Nat → Int64}
variable {tp : List Int32} {nt : Nat} {tx : Nat → List Int32} {lk : Nat → Bool} {ns : Nat} {tl : Nat → Nat} {pa : Nat → Int32} {pb : Nat → Nat} {ins : Nat → List Nat} {wd : Nat → Nat → Int32}
theorem flat_le {Ls : List (List Int32)} (h : ∀ L ∈ Ls, L.length ≤ 200) : Ls.flatten.length ≤ 200 * Ls.length := by
  induction Ls with
  | nil => simp
  | cons L r ih =>
    have h1 := h L List.mem_cons_self
    have h2 := ih (fun x hx => h x (List.mem_cons_of_mem _ hx))
    rw [List.flatten_cons, List.length_append, List.length_cons]
    omega
theorem flat_take {Ls : List (List Int32)} {k : Nat} (hk : k < Ls.length) : (Ls.take (k + 1)).flatten = (Ls.take k).flatten ++ Ls.getD k [] := by
  rw [List.take_add_one, List.flatten_append, List.getD_eq_getElem?_getD, List.getElem?_eq_getElem hk]
  simp
theorem getD_mem {α : Type} {L : List α} {k : Nat} {d : α} (hk : k < L.length) : L.getD k d ∈ L := by
  rw [List.getD_eq_getElem?_getD, List.getElem?_eq_getElem hk]
  exact List.getElem_mem _
theorem odd_eq {w : Int32} (hw : isB w) : (w - w / (2 : Int32) * (2 : Int32) = 1) ↔ w &&& 1 = 1 := by
  obtain ⟨v, hv, rfl⟩ := hw
  have e1 : nI v - nI v / (2 : Int32) * (2 : Int32) = nI (v % 2) := fa_rem (a := v) (k := 1) (by omega) (by decide)
  have e2 : nI v &&& (1 : Int32) = nI (v % 2) := fa_mask v 1
  rw [e1, e2]
/-- the joined inputs, or the picked one -/
def joT (t : Nat) (a w : Int32) (Ls : List (List Int32)) : List Int32 := if t = 5 then (if w < a then Ls.headD [] else Ls.getLastD []) else jnT t w Ls
theorem m_join {hf s : Nat} {f : Nat → Option (List Int32)} {h : Nat → Int32} {Ls : List (List Int32)} (hL : mL b K rv) (hT : mT b iv tp nt tx lk) (hdT : dT tp nt tx lk) (hP : mP b iv ns tl pa pb ins) (hdP : dP nt ns tl pa pb ins) (hs : s < ns) (hh : hf < 2) (hS : ∀ j, j < s → mS b iv (24 * hf + j) (f j)) (hg : ∀ j L, f j = some L → gT L) (hH : mHd b iv h) (hw : ∀ w, w < 8 → isB (h w)) (h0 : ins s ≠ []) (hLs : srcs (src tx lk f) (ins s) = some Ls) (hN : 300 < N) :
    zw (fX8_join N (K, iv, rv, lv) b (nI hf) (nI s)) (fun q => ∃ iv', q = (K, iv', rv, lv) ∧ fM b [14] [18] iv iv' ∧ mJ b iv' (joT (tl s) (pa s) (h (pb s)) Ls)) := by
  have hn := hdP.1
  have hnt := hdT.2.1
  obtain ⟨ht7, hpaB, hpb8, hl4, hok⟩ := hdP.2 s hs
  have hlen := srcs_len hLs
  have hpos : 0 < (ins s).length := List.length_pos_iff.mpr h0
  have hgL : ∀ L ∈ Ls, gT L := srcs_all hLs (fun i hi L e => src_good hdT hg (by rcases hok i hi with q | q <;> omega) e)
  unfold fX8_join fX8_join_0
  refine zw.e (zpi_at hL.o) ?_
  have hf0 : fM b [14] [18] iv (zu iv b 18 0) := fM.rf.puf (by simp) _
  generalize hiv0 : zu iv b 18 0 = iv0 at hf0
  have hJ0 : mJ b iv0 [] := ⟨by rw [← hiv0, zu_s]; rfl, aH.nil⟩
  have hP0 := hP.fr hf0 (by decide) (by decide)
  have hT0 := hT.fr hf0 (by decide) (by decide)
  have hS0 : ∀ j, j < s → mS b iv0 (24 * hf + j) (f j) := fun j hj => (hS j hj).fr hf0 (by decide)
  have hH0 := hH.fr hf0 (by decide)
  refine zw.e (zgr_at hL.o hL.r_inputs) ?_
  refine zw.e (zil_v hL.k_inputs rfl (by omega) (by decide) (hP0.2.2.2.2.1 s hs)) ?_
  refine zw.e (zgr_at hL.o hL.r_tool) ?_
  refine zw.e (zil_v hL.k_tool rfl (by omega) (by decide) (hP0.2.1 s hs)) ?_
  by_cases h5 : tl s = 5
  · refine zw.t (by rw [h5]; rfl) ?_
    refine zw.e (zgr_at hL.o hL.r_input) ?_
    refine zw.e (zgr_at hL.o hL.r_hand) ?_
    refine zw.e (zgr_at hL.o hL.r_b) ?_
    refine zw.e (zil_v hL.k_b rfl (by omega) (by decide) (hP0.2.2.2.1 s hs)) ?_
    refine zw.e (zil_v hL.k_hand rfl hpb8 (by decide) (hH0 _ hpb8)) ?_
    refine zw.e (zgr_at hL.o hL.r_a) ?_
    refine zw.e (zil_v hL.k_a rfl (by omega) (by decide) (hP0.2.2.1 s hs)) ?_
    have pick : ∀ k, k < (ins s).length → joT (tl s) (pa s) (h (pb s)) Ls = Ls.getD k [] → ∀ y4 : Int32, y4 = nI k → zw (fX8_join_58 N (K, iv0, rv, lv) b (nI hf) (b + 10) ((4 : Int32) * nI s) y4) (fun q => ∃ iv', q = (K, iv', rv, lv) ∧ fM b [14] [18] iv iv' ∧ mJ b iv' (joT (tl s) (pa s) (h (pb s)) Ls)) := by
      intro k hk he y4 hy4
      subst hy4
      unfold fX8_join_58
      refine zw.e (zil_v (j := 4 * s + k) hL.k_input (by rw [← nI_add, ← nI_mul]; rfl) (by omega) (by decide) (hP0.2.2.2.2.2 s hs k hk)) ?_
      refine zw.e (zrc_at hL.o) ?_
      have hgk : gT (Ls.getD k []) := hgL _ (getD_mem (by omega))
      refine zw.c (m_add hL hT0 hdT (by omega) hh hS0 (hok _ (getD_mem hk)) hgk (srcs_at hLs k hk) hJ0 (by have := hgk.1; rw [List.length_nil]; omega) hN) ?_
      rintro S ⟨iv1, rfl, g1, g2⟩
      refine zw.s ⟨iv1, rfl, hf0.tr g1, ?_⟩
      rw [he]
      exact g2
    refine zw.it (fun c => ?_) (fun c => ?_)
    · refine pick ((ins s).length - 1) (by omega) ?_ _ (nI_sub (show 1 ≤ (ins s).length by omega))
      unfold joT
      rw [if_pos h5, if_neg (Int32.not_lt.mpr c), List.getLastD_eq_getLast?, List.getLast?_eq_getElem?, List.getD_eq_getElem?_getD, hlen]
    · refine pick 0 hpos ?_ _ rfl
      unfold joT
      rw [if_pos h5, if_pos (Int32.not_le.mp c)]
      cases Ls with
      | nil => rfl
      | cons x r => rfl
  · refine zw.f (fun q => h5 ((nI_eq (by omega) (by decide)).mp q)) ?_
    have loop : ∀ (tr : Bool) (x4 : Int32), x4 = (if tr then 1 else 0) → joT (tl s) (pa s) (h (pb s)) Ls = (if tr then Ls.reverse else Ls).flatten → zw (lX8_join_101 N (K, iv0, rv, lv) b (nI hf) (nI s) (nI (ins s).length) x4 0) (fun q => ∃ iv', q = (K, iv', rv, lv) ∧ fM b [14] [18] iv iv' ∧ mJ b iv' (joT (tl s) (pa s) (h (pb s)) Ls)) := by
      intro tr x4 hx4 he
      rw [he]
      generalize hLr : (if tr then Ls.reverse else Ls) = Lr
      have hlr : Lr.length = (ins s).length := by rw [← hLr, ← hlen]; cases tr <;> simp
      have hgr : ∀ L ∈ Lr, gT L := fun L hl => by rw [← hLr] at hl; cases tr <;> simp at hl <;> exact hgL L hl
      unfold lX8_join_101
      refine zw.loop (fun m y => ∃ k iv1, k + m = (ins s).length ∧ y = ((K, iv1, rv, lv), b, nI hf, nI s, nI (ins s).length, x4, nI k) ∧ fM b [14] [18] iv0 iv1 ∧ mJ b iv1 (Lr.take k).flatten) ?_ N (ins s).length _ (by omega) ⟨0, iv0, by omega, rfl, fM.rf, hJ0⟩
      rintro m ⟨S, x0, x1, x2, x3, x4', x5⟩ Kc ⟨k, iv1, hk, hy, hfr, g⟩ ih
      cases hy
      dsimp only
      unfold fX8_join_101
      by_cases hm : m = 0
      · have : k = (ins s).length := by omega
        subst this
        rw [← hlr, List.take_length] at g
        exact zw.t (Int32.le_refl _) (zw.s ⟨iv1, rfl, hf0.tr hfr, g⟩)
      · refine zw.f (nI_ge (show k < (ins s).length by omega) (by omega)) ?_
        refine zw.e (zgr_at hL.o hL.r_input) ?_
        have step : ∀ (j : Nat) (y4 : Int32), y4 = nI j → j < (ins s).length → Ls.getD j [] = Lr.getD k [] → zw (fX8_join_132 N Kc (K, iv1, rv, lv) b (nI hf) (nI s) (nI (ins s).length) x4 (nI k) b (nI hf) (b + 10) ((4 : Int32) * nI s) y4) (fun q => ∃ iv', q = (K, iv', rv, lv) ∧ fM b [14] [18] iv iv' ∧ mJ b iv' Lr.flatten) := by
          intro j y4 hy4 hj hje
          subst hy4
          unfold fX8_join_132
          have hP1 := hP0.fr hfr (by decide) (by decide)
          refine zw.e (zil_v (j := 4 * s + j) hL.k_input (by rw [← nI_add, ← nI_mul]; rfl) (by omega) (by decide) (hP1.2.2.2.2.2 s hs j hj)) ?_
          refine zw.e (zrc_at hL.o) ?_
          have hgk : gT (Lr.getD k []) := hgr _ (getD_mem (by omega))
          have hsz : (Lr.take k).flatten.length ≤ 600 := by
            have h1 := flat_le (Ls := Lr.take k) (fun L hl => (hgr L (List.mem_of_mem_take hl)).1)
            rw [List.length_take] at h1
            have : min k Lr.length ≤ 3 := by omega
            omega
          refine zw.c (m_add hL (hT0.fr hfr (by decide) (by decide)) hdT (by omega) hh (fun j hj => (hS0 j hj).fr hfr (by decide)) (hok _ (getD_mem hj)) hgk (by rw [srcs_at hLs j hj, hje]) g (by have := hgk.1; omega) hN) ?_
          rintro S ⟨iv2, rfl, g1, g2⟩
          refine ih (m - 1) _ (by omega) ⟨k + 1, iv2, by omega, by rw [nI_1 k], hfr.tr g1, ?_⟩
          rw [flat_take (by omega)]
          exact g2
        refine zw.it (fun c => ?_) (fun c => ?_)
        · have htr : tr = false := by
            cases tr with
            | false => rfl
            | true => rw [hx4] at c; exact absurd c (by decide)
          refine step k _ rfl (by omega) ?_
          rw [← hLr, htr]
          rfl
        · have htr : tr = true := by
            cases tr with
            | true => rfl
            | false => rw [hx4] at c; exact absurd rfl c
          refine step ((ins s).length - 1 - k) _ ?_ (by omega) ?_
          · rw [show (1 : Int32) = nI 1 from rfl, nI_sub (by omega), nI_sub (by omega)]
          · rw [← hLr, htr]
            simp only [if_true, List.getD_eq_getElem?_getD]
            rw [List.getElem?_reverse (by omega), hlen]
    refine zw.e (zgr_at hL.o hL.r_tool) ?_
    refine zw.e (zil_v hL.k_tool rfl (by omega) (by decide) (hP0.2.1 s hs)) ?_
    have hno : ¬ (tl s = 2 ∧ h (pb s) &&& 1 = 1) → joT (tl s) (pa s) (h (pb s)) Ls = (if false then Ls.reverse else Ls).flatten := fun q => by
      unfold joT jnT
      rw [if_neg h5, if_neg q]
      rfl
    by_cases h2 : tl s = 2
    · refine zw.t (by rw [h2]; rfl) ?_
      refine zw.e (zgr_at hL.o hL.r_hand) ?_
      refine zw.e (zgr_at hL.o hL.r_b) ?_
      refine zw.e (zil_v hL.k_b rfl (by omega) (by decide) (hP0.2.2.2.1 s hs)) ?_
      refine zw.e (zil_v hL.k_hand rfl hpb8 (by decide) (hH0 _ hpb8)) ?_
      refine zw.it (fun c => ?_) (fun c => ?_)
      · have hod := (odd_eq (hw _ hpb8)).mp c
        unfold fX8_join_96
        refine loop true 1 rfl ?_
        unfold joT jnT
        rw [if_neg h5, if_pos ⟨h2, hod⟩]
        rfl
      · unfold fX8_join_95 fX8_join_96
        exact loop false 0 rfl (hno (fun q => c ((odd_eq (hw _ hpb8)).mpr q.2)))
    · refine zw.f (fun q => h2 ((nI_eq (by omega) (by decide)).mp q)) ?_
      unfold fX8_join_95 fX8_join_96
      exact loop false 0 rfl (hno (fun q => h2 q.1))
theorem filt0 {x v : Int32} (h : x = v) : [x].filter (fun x => decide (x ≠ v)) = [] := by simp [h]
theorem filt1 {x v : Int32} (h : ¬ x = v) : [x].filter (fun x => decide (x ≠ v)) = [x] := by simp [h]
theorem m_strip {J : List Int32} {v : Int32} (hL : mL b K rv) (hJ : mJ b iv J) (h8 : J.length ≤ 800) (hN : 1000 < N) : zw (fX8_strip N (K, iv, rv, lv) b v) (fun q => ∃ iv', q = (K, iv', rv, lv) ∧ fM b [14] [18] iv iv' ∧ mJ b iv' (J.filter fun x => decide (x ≠ v))) := by
  unfold fX8_strip fX8_strip_0 lX8_strip_4
  refine zw.loop (fun m y => ∃ k iv1, k + m = J.length ∧ y = ((K, iv1, rv, lv), b, v, nI ((J.take k).filter fun x => decide (x ≠ v)).length, nI k) ∧ fM b [14] [18] iv iv1 ∧ iv1 b 18 = nI J.length ∧ aH iv1 (b + 14) 0 ((J.take k).filter fun x => decide (x ≠ v)) ∧ ∀ j, k ≤ j → j < J.length → iv1 (b + 14) j = J.getD j 0) ?_ N J.length _ (by omega) ⟨0, iv, by omega, rfl, fM.rf, hJ.1, aH.nil, fun j _ hj => by have := hJ.2 j hj; rwa [Nat.zero_add] at this⟩
  rintro m ⟨S, x0, x1, x2, x3⟩ Kc ⟨k, iv1, hk, hy, hfr, g1, g2, g3⟩ ih
  cases hy
  dsimp only
  unfold fX8_strip_4 fX8_strip_40
  refine zw.e (zgi_v hL.o g1) ?_
  have hfl : ((J.take k).filter fun x => decide (x ≠ v)).length ≤ k := Nat.le_trans (List.length_filter_le _ _) (by rw [List.length_take]; omega)
  by_cases hm : m = 0
  · have : k = J.length := by omega
    subst this
    rw [List.take_length] at g2 ⊢
    refine zw.t (Int32.le_refl _) ?_
    refine zw.e (zpi_at hL.o) ?_
    exact zw.s ⟨_, rfl, hfr.puf (by simp) _, zu_s, g2.ne (by omega)⟩
  · refine zw.f (nI_ge (show k < J.length by omega) (by omega)) ?_
    refine zw.e (zgr_at hL.o hL.r_joined) ?_
    refine zw.e (zil_v hL.k_joined rfl (by omega) (by decide) (g3 k (Nat.le_refl _) (by omega))) ?_
    have htk : J.take (k + 1) = J.take k ++ [J.getD k 0] := take_snoc (by omega)
    by_cases hv : J.getD k 0 = v
    · refine zw.t hv ?_
      have hfe : (J.take (k + 1)).filter (fun x => decide (x ≠ v)) = (J.take k).filter (fun x => decide (x ≠ v)) := by
        rw [htk, List.filter_append]
        rw [filt0 hv, List.append_nil]
      refine ih (m - 1) _ (by omega) ⟨k + 1, iv1, by omega, by rw [nI_1 k, hfe], hfr, g1, by rw [hfe]; exact g2, fun j h1 h2 => g3 j (by omega) h2⟩
    · refine zw.f hv ?_
      refine zw.e (zgr_at hL.o hL.r_joined) ?_
      refine zw.e (zgr_at hL.o hL.r_joined) ?_
      refine zw.e (zil_v hL.k_joined rfl (by omega) (by decide) (g3 k (Nat.le_refl _) (by omega))) ?_
      refine zw.e (zis_v hL.k_joined rfl (by omega) (by decide)) ?_
      have hfe : (J.take (k + 1)).filter (fun x => decide (x ≠ v)) = (J.take k).filter (fun x => decide (x ≠ v)) ++ [J.getD k 0] := by
        rw [htk, List.filter_append]
        rw [filt1 hv]
      refine ih (m - 1) _ (by omega) ⟨k + 1, _, by omega, by rw [nI_1 k, hfe, len_snoc, nI_1], hfr.put (r := 14) (by simp) _ _, by rw [zu_o (by omega)]; exact g1, ?_, fun j h1 h2 => by rw [zu_o (by omega)]; exact g3 j (by omega) h2⟩
      rw [hfe]
      have h9 := g2.snoc (J.getD k 0)
      rw [Nat.zero_add] at h9
      exact h9
end M6
