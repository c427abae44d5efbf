/-! the model: taking words, joining inputs, the tools -/
section M5
variable {N b : Nat} {K : Nat → Option (Nat × Nat)} {iv : Nat → Nat → Int32} {rv : Nat → Nat → Option Nat} {lv : Nat → Nat → Int64}
variable {tp : List Int32} {nt : Nat} {tx : Nat → List Int32} {lk : Nat → Bool} {ns : Nat} {tl : Nat → Nat} {pa : Nat → Int32} {pb : Nat → Nat} {ins : Nat → List Nat} {wd : Nat → Nat → Int32}
/-- the words in hand -/
def mHd (b : Nat) (iv : Nat → Nat → Int32) (h : Nat → Int32) : Prop := ∀ w, w < 8 → iv (b + 11) w = h w
theorem mHd.fr {iv' : Nat → Nat → Int32} {h : Nat → Int32} {rs ks : List Nat} (hh : mHd b iv h) (hf : fM b rs ks iv iv') (h1 : 11 ∉ rs) : mHd b iv' h := fun w hw => by
  rw [hf.arr (by decide) h1]
  exact hh w hw
theorem len_snoc {α : Type} {L : List α} {x : α} : (L ++ [x]).length = L.length + 1 := by simp
theorem m_take {r : Nat} (hL : mL b K rv) (hW : mW b iv wd) (hr : r < 8) (hN : 100 < N) : zw (fX8_take N (K, iv, rv, lv) b (nI r)) (fun q => ∃ iv', q = (K, iv', rv, lv) ∧ fM b [11] [] iv iv' ∧ mHd b iv' (wd r)) := by
  unfold fX8_take fX8_take_0 lX8_take_2
  refine zw.loop (fun m y => ∃ k iv1, k + m = 8 ∧ y = ((K, iv1, rv, lv), b, nI r, nI k) ∧ fM b [11] [] iv iv1 ∧ ∀ w, w < k → iv1 (b + 11) w = wd r w) ?_ N 8 _ (by omega) ⟨0, iv, by omega, rfl, fM.rf, fun w hw => by omega⟩
  rintro m ⟨S, x0, x1, x2⟩ Kc ⟨k, iv1, hk, hy, hf, g⟩ ih
  cases hy
  dsimp only
  unfold fX8_take_2
  by_cases hm : m = 0
  · have : k = 8 := by omega
    subst this
    exact zw.t (by decide) (zw.s ⟨iv1, rfl, hf, g⟩)
  · refine zw.f (nI_ge (show k < 8 by omega) (by decide)) ?_
    refine zw.e (zgr_at hL.o hL.r_hand) ?_
    refine zw.e (zgr_at hL.o hL.r_words) ?_
    refine zw.e (zil_v (j := 8 * r + k) (x := wd r k) hL.k_words (by rw [← nI_add, ← nI_mul]; rfl) (by omega) (by decide) (by rw [hf.arr (by decide) (by decide)]; exact hW r k hr (by omega))) ?_
    refine zw.e (zis_v hL.k_hand rfl (by omega) (by decide)) ?_
    refine ih (m - 1) _ (by omega) ⟨k + 1, zu iv1 (b + 11) k (wd r k), by omega, by rw [nI_1 k], hf.put (r := 11) (by simp) _ _, fun w hw => ?_⟩
    by_cases e : w = k
    · rw [e, zu_s]
    · rw [zu_o (by omega)]; exact g w (by omega)
/-- a thing, where it is kept -/
def mS (b : Nat) (iv : Nat → Nat → Int32) (p : Nat) (o : Option (List Int32)) : Prop := match o with
  | none => iv (b + 12) p = -1
  | some L => iv (b + 12) p = nI L.length ∧ aH iv (b + 13) (200 * p) L
def szV (o : Option (List Int32)) : Int32 := match o with
  | none => -1
  | some L => nI L.length
theorem mS.sz {p : Nat} {o : Option (List Int32)} (h : mS b iv p o) : iv (b + 12) p = szV o := by
  cases o with
  | none => exact h
  | some L => exact h.1
theorem mS.fr {iv' : Nat → Nat → Int32} {p : Nat} {o : Option (List Int32)} {rs ks : List Nat} (h : mS b iv p o) (hf : fM b rs ks iv iv') (h1 : 12 ∉ rs ∧ 13 ∉ rs) : mS b iv' p o := by
  cases o with
  | none => show iv' (b + 12) p = -1; rw [hf.arr (by decide) h1.1]; exact h
  | some L => exact ⟨by rw [hf.arr (by decide) h1.1]; exact h.1, h.2.eq fun k _ => hf.arr (by decide) h1.2 _⟩
/-- an input that a step may have -/
abbrev okI (nt s i : Nat) : Prop := i < nt ∨ (100 ≤ i ∧ i < 100 + s)
theorem m_sizeOf {hf s i : Nat} {f : Nat → Option (List Int32)} (hL : mL b K rv) (hT : mT b iv tp nt tx lk) (hnt : nt ≤ 20) (hs : s ≤ 24) (hh : hf < 2) (hS : ∀ j, j < s → mS b iv (24 * hf + j) (f j)) (hi : okI nt s i) : fX8_sizeOf N (K, iv, rv, lv) b (nI hf) (nI i) = some (szV (src tx lk f i), (K, iv, rv, lv)) := by
  have key : zw (fX8_sizeOf N (K, iv, rv, lv) b (nI hf) (nI i)) (fun q => q = (szV (src tx lk f i), (K, iv, rv, lv))) := by
    unfold fX8_sizeOf fX8_sizeOf_0 fX8_sizeOf_42
    by_cases h : i < 100
    · have hi' : i < nt := by omega
      refine zw.t (nI_lt h (by decide)) ?_
      refine zw.e (zgr_at hL.o hL.r_lacking) ?_
      refine zw.e (zzl_v hL.k_lacking rfl (by omega) (by decide) (hT.2.2.2.2.2 i (by omega))) ?_
      cases hl : lk i with
      | false =>
        refine zw.t (by simp) ?_
        refine zw.e (zgr_at hL.o hL.r_textSize) ?_
        refine zw.e (zil_v hL.k_textSize rfl (by omega) (by decide) (hT.2.2.2.1 i hi')) ?_
        exact zw.s (by simp [src, h, hl, szV])
      | true => exact zw.f (by simp) (zw.s (by simp [src, h, hl, szV]))
    · refine zw.f (nI_nlt (show 100 ≤ i by omega) (by omega)) ?_
      refine zw.e (zgr_at hL.o hL.r_size) ?_
      refine zw.e (zil_v (j := 24 * hf + (i - 100)) hL.k_size ?_ (by omega) (by decide) (hS (i - 100) (by omega)).sz) ?_
      · rw [show (24 : Int32) * nI hf = nI (24 * hf) from nI_mul 24 hf, nI_add, show (100 : Int32) = nI 100 from rfl, nI_sub (by omega)]
        congr 1
        omega
      · exact zw.s (by simp [src, h])
  obtain ⟨q, e1, e2⟩ := key
  rw [e1, e2]
theorem m_byteOf {hf s i k : Nat} {f : Nat → Option (List Int32)} {L : List Int32} (hL : mL b K rv) (hT : mT b iv tp nt tx lk) (hdT : dT tp nt tx lk) (hs : s ≤ 24) (hh : hf < 2) (hS : ∀ j, j < s → mS b iv (24 * hf + j) (f j)) (hi : okI nt s i) (hg : gT L) (he : src tx lk f i = some L) (hk : k < L.length) : fX8_byteOf N (K, iv, rv, lv) b (nI hf) (nI i) (nI k) = some (L.getD k 0, (K, iv, rv, lv)) := by
  have hnt := hdT.2.1
  have key : zw (fX8_byteOf N (K, iv, rv, lv) b (nI hf) (nI i) (nI k)) (fun q => q = (L.getD k 0, (K, iv, rv, lv))) := by
    unfold fX8_byteOf fX8_byteOf_0 fX8_byteOf_40
    have hl2 := hg.1
    by_cases h : i < 100
    · have hi' : i < nt := by omega
      have hL' : L = tx i := by
        simp only [src, if_pos h] at he
        split at he
        · cases he
        · cases he; rfl
      subst hL'
      have h60 := hdT.2.2.1 i hi'
      refine zw.t (nI_lt h (by decide)) ?_
      refine zw.e (zgr_at hL.o hL.r_textBytes) ?_
      refine zw.e (zil_v (j := 60 * i + k) hL.k_textBytes (by rw [← nI_add, ← nI_mul]; rfl) (by omega) (by decide) (hT.2.2.2.2.1 i hi' k hk)) ?_
      exact zw.s rfl
    · have hf' : f (i - 100) = some L := by simpa [src, h] using he
      have h9 := hS (i - 100) (by omega)
      rw [hf'] at h9
      refine zw.f (nI_nlt (show 100 ≤ i by omega) (by omega)) ?_
      refine zw.e (zgr_at hL.o hL.r_bytes) ?_
      refine zw.e (zil_v (j := 200 * (24 * hf + (i - 100)) + k) hL.k_bytes ?_ (by omega) (by decide) (h9.2 k hk)) ?_
      · rw [show (24 : Int32) * nI hf = nI (24 * hf) from nI_mul 24 hf, nI_add, show (100 : Int32) = nI 100 from rfl, nI_sub (by omega), show (200 : Int32) = nI 200 from rfl, nI_mul, nI_add]
        congr 1
        omega
      · exact zw.s rfl
  obtain ⟨q, e1, e2⟩ := key
  rw [e1, e2]
/-- what is joined so far -/
def mJ (b : Nat) (iv : Nat → Nat → Int32) (J : List Int32) : Prop := iv b 18 = nI J.length ∧ aH iv (b + 14) 0 J
theorem m_add {hf s i : Nat} {f : Nat → Option (List Int32)} {L J : List Int32} (hL : mL b K rv) (hT : mT b iv tp nt tx lk) (hdT : dT tp nt tx lk) (hs : s ≤ 24) (hh : hf < 2) (hS : ∀ j, j < s → mS b iv (24 * hf + j) (f j)) (hi : okI nt s i) (hg : gT L) (he : src tx lk f i = some L) (hJ : mJ b iv J) (h8 : J.length + L.length ≤ 800) (hN : 300 < N) :
    zw (fX8_add N (K, iv, rv, lv) b (nI hf) (nI i)) (fun q => ∃ iv', q = (K, iv', rv, lv) ∧ fM b [14] [18] iv iv' ∧ mJ b iv' (J ++ L)) := by
  have hl2 := hg.1
  unfold fX8_add fX8_add_0
  refine zw.e (zrc_at hL.o) ?_
  refine zw.e2 (m_sizeOf hL hT hdT.2.1 hs hh hS hi) ?_
  rw [he]
  unfold lX8_add_10
  refine zw.loop (fun m y => ∃ k iv1, k + m = L.length ∧ y = ((K, iv1, rv, lv), b, nI hf, nI i, nI L.length, nI k) ∧ fM b [14] [18] iv iv1 ∧ mJ b iv1 (J ++ L.take k)) ?_ N L.length _ (by omega) ⟨0, iv, by omega, rfl, fM.rf, by simpa using hJ⟩
  rintro m ⟨S, x0, x1, x2, x3, x4⟩ Kc ⟨k, iv1, hk, hy, hfr, g⟩ ih
  cases hy
  dsimp only
  unfold fX8_add_10
  by_cases hm : m = 0
  · have : k = L.length := by omega
    subst this
    rw [List.take_length] at g
    exact zw.t (Int32.le_refl _) (zw.s ⟨iv1, rfl, hfr, g⟩)
  · refine zw.f (nI_ge (show k < L.length by omega) (by omega)) ?_
    have hlen : (J ++ L.take k).length = J.length + k := by
      rw [List.length_append, List.length_take, Nat.min_eq_left (by omega)]
    refine zw.e (zgr_at hL.o hL.r_joined) ?_
    refine zw.e (zgi_v hL.o g.1) ?_
    refine zw.e (zrc_at hL.o) ?_
    refine zw.e2 (m_byteOf hL (hT.fr hfr (by decide) (by decide)) hdT hs hh (fun j hj => (hS j hj).fr hfr (by decide)) hi hg he (show k < L.length by omega)) ?_
    refine zw.e (zis_v hL.k_joined rfl (by omega) (by decide)) ?_
    refine zw.e (zgi_v (x := nI (J ++ L.take k).length) hL.o (by rw [zu_o (by omega)]; exact g.1)) ?_
    refine zw.e (zpi_at hL.o) ?_
    refine ih (m - 1) _ (by omega) ⟨k + 1, _, by omega, by rw [nI_1 k], (hfr.put (r := 14) (by simp) _ _).puf (by simp) _, ?_⟩
    rw [take_snoc (show k < L.length by omega), ← List.append_assoc]
    refine ⟨?_, ?_⟩
    · rw [zu_s, nI_1 (J ++ L.take k).length, len_snoc]
    · have h9 := (g.2.snoc (L.getD k 0)).ne (a' := b) (i := 18) (x := nI (J ++ L.take k).length + 1) (by omega)
      rw [Nat.zero_add] at h9
      exact h9
theorem m_isReady {hf s : Nat} {f : Nat → Option (List Int32)} (hL : mL b K rv) (hT : mT b iv tp nt tx lk) (hdT : dT tp nt tx lk) (hP : mP b iv ns tl pa pb ins) (hdP : dP nt ns tl pa pb ins) (hs : s < ns) (hh : hf < 2) (hS : ∀ j, j < s → mS b iv (24 * hf + j) (f j)) (hg : ∀ j L, f j = some L → gT L) (hN : 100 < N) :
    zw (fX8_isReady N (K, iv, rv, lv) b (nI hf) (nI s)) (fun q => q = (if ins s ≠ [] ∧ srcs (src tx lk f) (ins s) ≠ none then 1 else 0, (K, iv, rv, lv))) := by
  have hn := hdP.1
  have hnt := hdT.2.1
  have hl4 := (hdP.2 s hs).2.2.2.1
  have hok := (hdP.2 s hs).2.2.2.2
  have hmem : ∀ j, j < (ins s).length → (ins s).getD j 0 ∈ ins s := fun j hj => by
    rw [List.getD_eq_getElem?_getD, List.getElem?_eq_getElem hj]
    exact List.getElem_mem _
  unfold fX8_isReady fX8_isReady_0 fX8_isReady_14
  refine zw.e (zgr_at hL.o hL.r_inputs) ?_
  refine zw.e (zil_v hL.k_inputs rfl (by omega) (by decide) (hP.2.2.2.2.1 s hs)) ?_
  have loop : ∀ x3 : Int32, x3 = (if ins s ≠ [] then 1 else 0) → zw (lX8_isReady_18 N (K, iv, rv, lv) b (nI hf) (nI s) x3 0) (fun q => q = (if ins s ≠ [] ∧ srcs (src tx lk f) (ins s) ≠ none then 1 else 0, (K, iv, rv, lv))) := by
    intro x3 hx3
    unfold lX8_isReady_18
    refine zw.loop (fun m y => ∃ k x3, k + m = (ins s).length ∧ y = ((K, iv, rv, lv), b, nI hf, nI s, x3, nI k) ∧ x3 = (if ins s ≠ [] ∧ ∀ j, j < k → src tx lk f ((ins s).getD j 0) ≠ none then 1 else 0)) ?_ N (ins s).length _ (by omega) ⟨0, x3, by omega, rfl, by rw [hx3]; simp⟩
    rintro m ⟨S, x0, x1, x2, x3', x4⟩ Kc ⟨k, x3, hk, hy, g⟩ ih
    cases hy
    dsimp only
    unfold fX8_isReady_18 fX8_isReady_57 fX8_isReady_58
    refine zw.e (zgr_at hL.o hL.r_inputs) ?_
    refine zw.e (zil_v hL.k_inputs rfl (by omega) (by decide) (hP.2.2.2.2.1 s hs)) ?_
    by_cases hm : m = 0
    · have hke : k = (ins s).length := by omega
      refine zw.t (nI_le (by omega) (by omega)) (zw.s ?_)
      have hiff : (∀ j, j < k → src tx lk f ((ins s).getD j 0) ≠ none) ↔ srcs (src tx lk f) (ins s) ≠ none := by
        constructor
        · intro q e
          obtain ⟨i, hi, e⟩ := srcs_none.mp e
          obtain ⟨j, hj, hje⟩ := List.getElem_of_mem hi
          exact q j (by omega) (by rw [List.getD_eq_getElem?_getD, List.getElem?_eq_getElem hj]; show src tx lk f (ins s)[j] = none; rw [hje]; exact e)
        · intro q j hj e
          exact q (srcs_none.mpr ⟨_, hmem j (by omega), e⟩)
      rw [g]
      by_cases c1 : ins s ≠ [] ∧ ∀ j, j < k → src tx lk f ((ins s).getD j 0) ≠ none
      · rw [if_pos c1, if_pos ⟨c1.1, hiff.mp c1.2⟩]
        rfl
      · rw [if_neg c1, if_neg (fun q => c1 ⟨q.1, hiff.mpr q.2⟩)]
        rfl
    · refine zw.f (nI_ge (show k < (ins s).length by omega) (by omega)) ?_
      have step : ∀ y : Int32, y = (if ins s ≠ [] ∧ ∀ j, j < k + 1 → src tx lk f ((ins s).getD j 0) ≠ none then 1 else 0) → zw (Kc ((K, iv, rv, lv), b, nI hf, nI s, y, nI k + 1)) (fun q => q = (if ins s ≠ [] ∧ srcs (src tx lk f) (ins s) ≠ none then 1 else 0, (K, iv, rv, lv))) := fun y hy => ih (m - 1) _ (by omega) ⟨k + 1, y, by omega, by rw [nI_1 k], hy⟩
      by_cases c1 : ins s ≠ [] ∧ ∀ j, j < k → src tx lk f ((ins s).getD j 0) ≠ none
      · rw [if_pos c1] at g
        refine zw.f (by rw [g]; decide) ?_
        refine zw.e (zgr_at hL.o hL.r_input) ?_
        refine zw.e (zil_v (j := 4 * s + k) hL.k_input (by rw [← nI_add, ← nI_mul]; rfl) (by omega) (by decide) (hP.2.2.2.2.2 s hs k (by omega))) ?_
        refine zw.e (zrc_at hL.o) ?_
        refine zw.e2 (m_sizeOf hL hT hnt (by omega) hh hS (hok _ (hmem k (by omega)))) ?_
        cases hsr : src tx lk f ((ins s).getD k 0) with
        | none =>
          refine zw.t rfl (step 0 ?_)
          rw [if_neg]
          exact fun q => q.2 k (by omega) hsr
        | some L =>
          have hgL : gT L := src_good hdT hg (by rcases hok _ (hmem k (by omega)) with q | q <;> omega) hsr
          refine zw.f (fun q => ?_) (step 1 ?_)
          · have := congrArg Int32.toInt q
            rw [szV, nI_toInt (by have := hgL.1; omega)] at this
            have h2 : (-1 : Int32).toInt = -1 := rfl
            omega
          · rw [if_pos]
            refine ⟨c1.1, fun j hj e => ?_⟩
            by_cases e2 : j = k
            · rw [e2, hsr] at e; cases e
            · exact c1.2 j (by omega) e
      · rw [if_neg c1] at g
        refine zw.t g (step 0 ?_)
        rw [if_neg]
        exact fun q => c1 ⟨q.1, fun j hj => q.2 j (by omega)⟩
  by_cases h0 : ins s = []
  · refine zw.t (by rw [h0]; decide) (loop 0 (by simp [h0]))
  · have : 0 < (ins s).length := List.length_pos_iff.mpr h0
    refine zw.f (nI_nle this (by omega)) (loop 1 (by simp [h0]))
end M5
