/-! the class: rows, tape, texts -/
/-- what may have changed: rows of the store in A -/
def fQ (A : Nat → Prop) (iv iv' : Nat → Nat → Int32) : Prop := ∀ a j, ¬ A a → iv' a j = iv a j
section FQ
variable {A B : Nat → Prop} {iv iv1 iv2 : Nat → Nat → Int32}
theorem fQ.rf : fQ A iv iv := fun _ _ _ => rfl
theorem fQ.tr (h1 : fQ A iv iv1) (h2 : fQ A iv1 iv2) : fQ A iv iv2 := fun a j h => (h2 a j h).trans (h1 a j h)
theorem fQ.mo (h : fQ A iv iv1) (hi : ∀ a, A a → B a) : fQ B iv iv1 := fun a j hb => h a j (fun q => hb (hi a q))
theorem fQ.put (h : fQ A iv iv1) {a : Nat} (ha : A a) (i : Nat) (x : Int32) : fQ A iv (zu iv1 a i x) := fun c j hc => by
  have hn : ¬ (c = a ∧ j = i) := fun q => hc (by rw [q.1]; exact ha)
  rw [zu_o hn]
  exact h c j hc
theorem fQ.ro (h : fQ A iv iv1) {a : Nat} (ha : A a) (g : Nat → Int32) : fQ A iv (zro iv1 a g) := fun c j hc => by
  simp only [zro, if_neg (fun q => hc (q ▸ ha) : ¬ c = a)]
  exact h c j hc
end FQ
/-- a row and what it holds -/
def cR (iv : Nat → Nat → Int32) (a : Nat) (L : List Int32) : Prop := iv a 1 = nI L.length ∧ aH iv (a + 1) 0 L
theorem cR.fr {iv iv' : Nat → Nat → Int32} {A : Nat → Prop} {a : Nat} {L : List Int32} (h : cR iv a L) (hf : fQ A iv iv') (h1 : ¬ A a) (h2 : ¬ A (a + 1)) : cR iv' a L := ⟨by rw [hf a 1 h1]; exact h.1, h.2.eq fun k _ => hf _ _ h2⟩
section C1
variable {N b : Nat} {K : Nat → Option (Nat × Nat)} {iv : Nat → Nat → Int32} {rv : Nat → Nat → Option Nat} {lv : Nat → Nat → Int64} {S : zS}
theorem zcp_at {a c n m s d k : Nat} (ha : K a = some (9, n)) (hc : K c = some (9, m)) (h1 : s + k ≤ n) (h2 : d + k ≤ m) (hn : n < 2 ^ 31) (hm : m < 2 ^ 31) : zcp (K, iv, rv, lv) a (nI s) c (nI d) (nI k) = some (K, zro iv c (va_cpy (iv a) (iv c) s d k), rv, lv) := by
  simp only [zcp, ha, hc]
  rw [nI_clamp (show s < 2 ^ 31 by omega), nI_clamp (show d < 2 ^ 31 by omega), nI_clamp (show k < 2 ^ 31 by omega)]
  rw [if_pos ⟨trivial, trivial, nI_pos (by omega), nI_pos (by omega), nI_pos (by omega), h1, h2⟩]
theorem c_put {a n : Nat} {L : List Int32} {v : Int32} (hr : cRow K rv a n) (hR : cR iv a L) (hl : L.length ≤ n) (hn : n < 2 ^ 30) :
    zw (fX5_put N (K, iv, rv, lv) a v) (fun q => (L.length < n → q.1 = 1 ∧ ∃ iv', q.2 = (K, iv', rv, lv) ∧ fQ (fun c => c = a ∨ c = a + 1) iv iv' ∧ cR iv' a (L ++ [v])) ∧ (n ≤ L.length → q = (0, (K, iv, rv, lv)))) := by
  obtain ⟨h1, h2, h3⟩ := hr
  unfold fX5_put fX5_put_0
  refine zw.e (zgi_v h1 hR.1) ?_
  refine zw.e (zgr_at h1 h2) ?_
  refine zw.e (zln_at h3) ?_
  by_cases h : L.length < n
  · refine zw.t (nI_lt h (by omega)) ?_
    refine zw.e (zgr_at h1 h2) ?_
    refine zw.e (zgi_v h1 hR.1) ?_
    refine zw.e (zis_v h3 rfl h (by omega)) ?_
    refine zw.e (zgi_v (x := nI L.length) h1 (by rw [zu_o (by omega)]; exact hR.1)) ?_
    refine zw.e (zpi_at h1) ?_
    refine zw.s ⟨fun _ => ⟨rfl, _, rfl, (fQ.rf.put (Or.inr rfl) _ _).put (Or.inl rfl) _ _, ?_, ?_⟩, fun q => absurd h (by omega)⟩
    · rw [zu_s, nI_1, len_snoc]
    · have h9 := hR.2.snoc v
      rw [Nat.zero_add] at h9
      exact h9.ne (by omega)
  · exact zw.f (nI_nlt (by omega) (by omega)) (zw.s ⟨fun q => absurd q h, fun _ => rfl⟩)
theorem aH.app {iv : Nat → Nat → Int32} {a : Nat} {L M : List Int32} {g : Nat → Int32} (h : aH iv a 0 L) (hg : ∀ k, k < M.length → g k = M.getD k 0) : aH (zro iv a (va_cpy g (iv a) 0 L.length M.length)) a 0 (L ++ M) := by
  intro k hk
  rw [List.length_append] at hk
  simp only [zro, if_true, va_cpy, Nat.zero_add]
  by_cases hk2 : k < L.length
  · rw [if_neg (by omega)]
    have := h k hk2
    rw [Nat.zero_add] at this
    rw [this]
    simp only [List.getD_eq_getElem?_getD, List.getElem?_append_left hk2]
  · rw [if_pos (by omega), hg _ (by omega)]
    simp only [List.getD_eq_getElem?_getD, List.getElem?_append_right (show L.length ≤ k by omega)]
theorem c_append {a c n m : Nat} {L M : List Int32} (hr : cRow K rv a n) (hR : cR iv a L) (hl : L.length ≤ n) (hr2 : cRow K rv c m) (hR2 : cR iv c M) (hm : M.length ≤ m) (hn : n < 2 ^ 29) (hm2 : m < 2 ^ 29) (hne : a ≠ c ∧ a ≠ c + 1 ∧ a + 1 ≠ c) :
    zw (fX5_append N (K, iv, rv, lv) a c) (fun q => (L.length + M.length ≤ n → q.1 = 1 ∧ ∃ iv', q.2 = (K, iv', rv, lv) ∧ fQ (fun c => c = a ∨ c = a + 1) iv iv' ∧ cR iv' a (L ++ M)) ∧ (¬ L.length + M.length ≤ n → q = (0, (K, iv, rv, lv)))) := by
  obtain ⟨h1, h2, h3⟩ := hr
  obtain ⟨g1, g2, g3⟩ := hr2
  obtain ⟨n1, n2, n3⟩ := hne
  unfold fX5_append fX5_append_0
  refine zw.e (zgi_v h1 hR.1) ?_
  refine zw.e (zgi_v g1 hR2.1) ?_
  refine zw.e (zgr_at h1 h2) ?_
  refine zw.e (zln_at h3) ?_
  rw [nI_add]
  by_cases h : L.length + M.length ≤ n
  · refine zw.t (nI_le h (by omega)) ?_
    refine zw.e (zgr_at g1 g2) ?_
    refine zw.e (zgr_at h1 h2) ?_
    refine zw.e (zgi_v h1 hR.1) ?_
    refine zw.e (zgi_v g1 hR2.1) ?_
    refine zw.e (zcp_at (s := 0) g3 h3 (by omega) h (by omega) (by omega)) ?_
    refine zw.e (zgi_v (x := nI L.length) h1 (by simp only [zro, if_neg (show ¬ a = a + 1 by omega)]; exact hR.1)) ?_
    refine zw.e (zgi_v (x := nI M.length) g1 (by simp only [zro, if_neg (show ¬ c = a + 1 from fun q => n3 q.symm)]; exact hR2.1)) ?_
    refine zw.e (zpi_at h1) ?_
    refine zw.s ⟨fun _ => ⟨rfl, _, rfl, (fQ.rf.ro (Or.inr rfl) _).put (Or.inl rfl) _ _, ?_, ?_⟩, fun q => absurd h q⟩
    · rw [zu_s, nI_add, List.length_append]
    · refine aH.ne ?_ (by omega)
      refine hR.2.app fun k hk => ?_
      have := hR2.2 k hk
      rwa [Nat.zero_add] at this
  · exact zw.f (nI_ge (show n < L.length + M.length by omega) (by omega)) (zw.s ⟨fun q => absurd q h, fun _ => rfl⟩)
theorem c_same {a c n m : Nat} {L M : List Int32} (hr : cRow K rv a n) (hR : cR iv a L) (hl : L.length ≤ n) (hr2 : cRow K rv c m) (hR2 : cR iv c M) (hm : M.length ≤ m) (hn : n < 2 ^ 29) (hm2 : m < 2 ^ 29) (hN : n < N) : zw (fX5_isSameAs N (K, iv, rv, lv) a c) (fun q => q = (if L = M then 1 else 0, (K, iv, rv, lv))) := by
  obtain ⟨h1, h2, h3⟩ := hr
  obtain ⟨g1, g2, g3⟩ := hr2
  unfold fX5_isSameAs fX5_isSameAs_0
  refine zw.e (zgi_v h1 hR.1) ?_
  refine zw.e (zgi_v g1 hR2.1) ?_
  by_cases hlen : L.length = M.length
  · refine zw.t (by rw [hlen]) ?_
    unfold lX5_isSameAs_15
    refine zw.loop (fun t y => ∃ k, k + t = L.length ∧ y = ((K, iv, rv, lv), a, c, nI k) ∧ ∀ j, j < k → L.getD j 0 = M.getD j 0) ?_ N L.length _ (by omega) ⟨0, by omega, rfl, fun j hj => by omega⟩
    rintro t ⟨S, x0, x1, x2⟩ Kc ⟨k, hk, hy, g⟩ ih
    cases hy
    dsimp only
    unfold fX5_isSameAs_15
    refine zw.e (zgi_v h1 hR.1) ?_
    by_cases ht : t = 0
    · refine zw.t (nI_le (by omega) (by omega)) (zw.s ?_)
      have : L = M := by
        apply List.ext_getElem hlen
        intro j hj1 hj2
        have := g j (by omega)
        simpa [List.getD_eq_getElem?_getD, List.getElem?_eq_getElem hj1, List.getElem?_eq_getElem hj2] using this
      rw [this, if_pos rfl]
      rfl
    · refine zw.f (nI_ge (show k < L.length by omega) (by omega)) ?_
      have e1 := hR.2 k (by omega)
      have e2 := hR2.2 k (by omega)
      rw [Nat.zero_add] at e1 e2
      refine zw.e (zgr_at h1 h2) ?_
      refine zw.e (zib_v h3 rfl (by omega) (by omega) hR.1 (by omega) (by omega) e1) ?_
      refine zw.e (zgr_at g1 g2) ?_
      refine zw.e (zib_v g3 rfl (by omega) (by omega) hR2.1 (by omega) (by omega) e2) ?_
      refine zw.it (fun cc => ih (t - 1) _ (by omega) ⟨k + 1, by omega, by rw [nI_1 k], fun j hj => ?_⟩) (fun cc => zw.s ?_)
      · by_cases e : j = k
        · rw [e]; exact cc
        · exact g j (by omega)
      · rw [if_neg (fun q => cc (by rw [q]))]
        rfl
  · refine zw.f (fun q => hlen ((nI_eq (by omega) (by omega)).mp q)) (zw.s ?_)
    rw [if_neg (fun q => hlen (by rw [q]))]
    rfl
/-- the class's tape and texts -/
def cT (b : Nat) (iv : Nat → Nat → Int32) (tp : List Int32) (nt : Nat) (tx : Nat → List Int32) (lk : Nat → Bool) : Prop := cR iv (b + 2) tp ∧ iv (b + 1) 2 = nI nt ∧ isS (iv (b + 1) 3) lk ∧ ∀ t, t < nt → cR iv (b + 5 + 2 * t) (tx t)
theorem cT.fr {iv' : Nat → Nat → Int32} {A : Nat → Prop} {tp : List Int32} {nt : Nat} {tx : Nat → List Int32} {lk : Nat → Bool} (h : cT b iv tp nt tx lk) (hf : fQ A iv iv') (hA : ∀ a, b + 1 ≤ a → a < b + 45 → ¬ A a) (hn : nt ≤ 20) : cT b iv' tp nt tx lk :=
  ⟨h.1.fr hf (hA _ (by omega) (by omega)) (hA _ (by omega) (by omega)), by rw [hf _ _ (hA _ (by omega) (by omega))]; exact h.2.1, by rw [hf _ _ (hA _ (by omega) (by omega))]; exact h.2.2.1, fun t ht => (h.2.2.2 t ht).fr hf (hA _ (by omega) (by omega)) (hA _ (by omega) (by omega))⟩
abbrev aTex (b : Nat) : Nat → Prop := fun a => b + 1 ≤ a ∧ a < b + 45
variable {tp : List Int32} {nt : Nat} {tx : Nat → List Int32} {lk : Nat → Bool}
theorem c_tapeTo {t : Nat} (hL : cTex b K rv) (hT : cT b iv tp nt tx lk) (hd : dT tp nt tx lk) (ht : t < 20) :
    zw (fX6_tapeTo N (K, iv, rv, lv) (b + 1) (nI t)) (fun q => q.1 = nI tp.length ∧ ∃ iv', q.2 = (K, iv', rv, lv) ∧ fQ (aTex b) iv iv' ∧ (∀ j, iv' (b + 1) j = iv (b + 1) j) ∧ cR iv' (b + 2) [] ∧ cR iv' (b + 5 + 2 * t) tp ∧ ∀ t', t' < nt → t' ≠ t → cR iv' (b + 5 + 2 * t') (tx t')) := by
  obtain ⟨k1, k2, k3, k4, k5, k6⟩ := hL
  obtain ⟨r1, r2⟩ := k6 t ht
  have h60 := hd.1
  unfold fX6_tapeTo fX6_tapeTo_0
  refine zw.e (zgr_at k1 k3) ?_
  refine zw.e (zal_at k5 ht (by decide) r1) ?_
  refine zw.e (zpz_0 r2.1) ?_
  refine zw.e (zgr_at k1 k3) ?_
  refine zw.e (zal_at k5 ht (by decide) r1) ?_
  refine zw.e (zgr_at k1 k2) ?_
  refine zw.e (zrc_at r2.1) ?_
  have f0 : fQ (fun a => a = b + 5 + 2 * t) iv (zu iv (b + 5 + 2 * t) 1 0) := fQ.put (A := fun a => a = b + 5 + 2 * t) fQ.rf rfl _ _
  refine zw.c2 (c_append r2 (L := []) (iv := zu iv (b + 5 + 2 * t) 1 0) ⟨zu_s, aH.nil⟩ (by simp) k4 (hT.1.fr f0 (by omega) (by omega)) h60 (by decide) (by decide) ⟨by omega, by omega, by omega⟩) ?_
  rintro v S ⟨hv, -⟩
  obtain ⟨hv1, iv1, rfl, f1, g1⟩ := hv (by simpa using h60)
  refine zw.e (zgr_at k1 k2) ?_
  refine zw.e (zpz_0 k4.1) ?_
  refine zw.e (zgr_at k1 k3) ?_
  refine zw.e (zal_at k5 ht (by decide) r1) ?_
  rw [List.nil_append] at g1
  refine zw.e (zgi_v (x := nI tp.length) r2.1 (by rw [zu_o (by omega)]; exact g1.1)) ?_
  have f2 : fQ (fun a => a = b + 2) iv1 (zu iv1 (b + 2) 1 0) := fQ.put (A := fun a => a = b + 2) fQ.rf rfl _ _
  have fA : fQ (aTex b) iv (zu iv1 (b + 2) 1 0) := ((f0.mo (fun a h => by omega)).tr (f1.mo (fun a h => by omega))).tr (f2.mo (fun a h => by omega))
  have g2 : cR (zu iv1 (b + 2) 1 0) (b + 5 + 2 * t) tp := g1.fr f2 (by omega) (by omega)
  have e1 : ∀ j, zu iv1 (b + 2) 1 0 (b + 1) j = iv (b + 1) j := fun j => by rw [zu_o (by omega), f1 _ _ (by omega), zu_o (by omega)]
  refine zw.s ⟨rfl, _, rfl, fA, e1, ⟨zu_s, aH.nil⟩, g2, fun t' ht' hne => ?_⟩
  exact (((hT.2.2.2 t' ht').fr f0 (by omega) (by omega)).fr f1 (by omega) (by omega)).fr f2 (by omega) (by omega)
theorem c_isText {x : Int32} (hC : cTop b K rv) (hL : cTex b K rv) (hT : cT b iv tp nt tx lk) : fX7_isText N (K, iv, rv, lv) b x = some (if inR nt x then 1 else 0, (K, iv, rv, lv)) := by
  unfold fX7_isText fX7_isText_0 fX7_isText_19 fX7_isText_20
  by_cases h0 : x < 0
  · rw [if_pos h0, if_neg (fun q => q.1 h0)]
    rfl
  · rw [if_neg h0, zgr_at hC.1 hC.2.1, Option.bind_some, zgi_v hL.1 hT.2.1, Option.bind_some]
    by_cases h1 : nI nt ≤ x
    · rw [if_pos h1, if_neg (fun q => Int32.not_lt.mpr h1 q.2)]
      rfl
    · rw [if_neg h1, if_pos ⟨h0, Int32.not_le.mp h1⟩]
      rfl
theorem c_isBit {x : Int32} : fX7_isBit N S x = some (if inR 2 x then 1 else 0, S) := by
  unfold fX7_isBit fX7_isBit_0 fX7_isBit_9 fX7_isBit_14
  by_cases h0 : x = 0
  · rw [if_pos h0, if_pos (by rw [h0]; exact ⟨by decide, by decide⟩)]
    rfl
  · rw [if_neg h0]
    by_cases h1 : x = 1
    · rw [if_pos h1, if_pos (by rw [h1]; exact ⟨by decide, by decide⟩)]
      rfl
    · rw [if_neg h1, if_neg (fun q => (inR2 q).elim h0 h1)]
      rfl
theorem lt_le8 {x : Int32} {n : Nat} : (¬ x < 0 ∧ ¬ nI n ≤ x) ↔ inR n x := by
  unfold inR
  rw [Int32.not_le]
theorem c_isRoom {x : Int32} : fX7_isRoom N S x = some (if inR 8 x then 1 else 0, S) := by
  unfold fX7_isRoom fX7_isRoom_0 fX7_isRoom_14 fX7_isRoom_15
  by_cases h0 : x < 0
  · rw [if_pos h0, if_neg (fun q => q.1 h0)]; rfl
  · rw [if_neg h0]
    by_cases h1 : (8 : Int32) ≤ x
    · rw [if_pos h1, if_neg (fun q => Int32.not_lt.mpr h1 q.2)]; rfl
    · rw [if_neg h1, if_pos ⟨h0, Int32.not_le.mp h1⟩]; rfl
theorem c_isWord {x : Int32} : fX7_isWord N S x = some (if inR 8 x then 1 else 0, S) := by
  unfold fX7_isWord fX7_isWord_0 fX7_isWord_14 fX7_isWord_15
  by_cases h0 : x < 0
  · rw [if_pos h0, if_neg (fun q => q.1 h0)]; rfl
  · rw [if_neg h0]
    by_cases h1 : (8 : Int32) ≤ x
    · rw [if_pos h1, if_neg (fun q => Int32.not_lt.mpr h1 q.2)]; rfl
    · rw [if_neg h1, if_pos ⟨h0, Int32.not_le.mp h1⟩]; rfl
theorem c_isMaker {x : Int32} : fX7_isMaker N S x = some (if inR 30 x then 1 else 0, S) := by
  unfold fX7_isMaker fX7_isMaker_0 fX7_isMaker_14 fX7_isMaker_15
  by_cases h0 : x < 0
  · rw [if_pos h0, if_neg (fun q => q.1 h0)]; rfl
  · rw [if_neg h0]
    by_cases h1 : (30 : Int32) ≤ x
    · rw [if_pos h1, if_neg (fun q => Int32.not_lt.mpr h1 q.2)]; rfl
    · rw [if_neg h1, if_pos ⟨h0, Int32.not_le.mp h1⟩]; rfl
theorem c_areRooms {x y : Int32} : fX7_areRooms N S x y = some (if inR 8 x ∧ inR 8 y then 1 else 0, S) := by
  unfold fX7_areRooms fX7_areRooms_0 fX7_areRooms_18 fX7_areRooms_19
  rw [c_isRoom]
  by_cases h1 : inR 8 x
  · rw [if_pos h1]
    simp only [zb2, c_isRoom]
    by_cases h2 : inR 8 y
    · rw [if_pos h2, if_pos ⟨h1, h2⟩]; rfl
    · rw [if_neg h2, if_neg (fun q => h2 q.2)]; rfl
  · rw [if_neg h1, if_neg (fun q => h1 q.1)]
    rfl
theorem c_text (hC : cTop b K rv) (hL : cTex b K rv) (hT : cT b iv tp nt tx lk) (hd : dT tp nt tx lk) :
    zw (fX7_text N (K, iv, rv, lv) b) (fun q => ∃ iv', q.2 = (K, iv', rv, lv) ∧ fQ (aTex b) iv iv' ∧ if nt = 20 then q.1 = -3 ∧ cT b iv' tp nt tx lk else q.1 = nI nt ∧ cT b iv' [] (nt + 1) (upT tx nt tp) lk) := by
  have hn := hd.2.1
  unfold fX7_text fX7_text_0
  refine zw.e (zgr_at hC.1 hC.2.1) ?_
  refine zw.e (zgi_v hL.1 hT.2.1) ?_
  by_cases h : nt = 20
  · refine zw.f (by rw [h]; decide) (zw.s ⟨iv, rfl, fQ.rf, ?_⟩)
    rw [if_pos h]
    exact ⟨rfl, hT⟩
  · refine zw.t (nI_lt (show nt < 20 by omega) (by decide)) ?_
    refine zw.e (zgr_at hC.1 hC.2.1) ?_
    refine zw.e (zgr_at hC.1 hC.2.1) ?_
    refine zw.e (zgi_v hL.1 hT.2.1) ?_
    refine zw.e (zrc_at hL.1) ?_
    refine zw.c2 (c_tapeTo hL hT hd (show nt < 20 by omega)) ?_
    rintro v S ⟨-, iv1, rfl, f1, g1, g2, g3, g4⟩
    refine zw.e (zgr_at hC.1 hC.2.1) ?_
    refine zw.e (zgi_v (x := nI nt) hL.1 (by rw [g1]; exact hT.2.1)) ?_
    refine zw.e (zpi_at hL.1) ?_
    refine zw.e (zgr_at hC.1 hC.2.1) ?_
    refine zw.e (zgi_v (x := nI nt + 1) hL.1 zu_s) ?_
    have f2 : fQ (fun a => a = b + 1) iv1 (zu iv1 (b + 1) 2 (nI nt + 1)) := fQ.put (A := fun a => a = b + 1) fQ.rf rfl _ _
    refine zw.s ⟨_, rfl, f1.tr (f2.mo (fun a h => by omega)), ?_⟩
    rw [if_neg h]
    refine ⟨by rw [nI_1]; exact nI_pred nt, g2.fr f2 (by omega) (by omega), by rw [zu_s, nI_1], by rw [zu_o (by omega), g1]; exact hT.2.2.1, fun t ht => ?_⟩
    unfold upT
    by_cases e : t = nt
    · rw [if_pos e, e]; exact g3.fr f2 (by omega) (by omega)
    · rw [if_neg e]; exact (g4 t (by omega) e).fr f2 (by omega) (by omega)
theorem c_write {x : Int32} (hC : cTop b K rv) (hL : cTex b K rv) (hT : cT b iv tp nt tx lk) (hd : dT tp nt tx lk) :
    zw (fX7_write N (K, iv, rv, lv) b x) (fun q => ∃ iv', q.2 = (K, iv', rv, lv) ∧ fQ (aTex b) iv iv' ∧ if inR nt x then q.1 = nI tp.length ∧ cT b iv' [] nt (upT tx x.toNatClampNeg tp) lk else q.1 = -1 ∧ cT b iv' tp nt tx lk) := by
  have hn := hd.2.1
  unfold fX7_write fX7_write_0
  refine zw.e (zrc_at hC.1) ?_
  refine zw.e2 (c_isText hC hL hT) ?_
  by_cases h : inR nt x
  · rw [if_pos h]
    refine zw.f (by decide) ?_
    obtain ⟨t, ht, rfl⟩ := h.at (by omega)
    refine zw.e (zgr_at hC.1 hC.2.1) ?_
    refine zw.e (zrc_at hL.1) ?_
    refine zw.c2 (c_tapeTo hL hT hd (show t < 20 by omega)) ?_
    rintro v S ⟨hv, iv1, rfl, f1, g1, g2, g3, g4⟩
    refine zw.s ⟨iv1, rfl, f1, ?_⟩
    rw [if_pos h, nI_clamp (show t < 2 ^ 31 by omega)]
    refine ⟨hv, g2, by rw [g1]; exact hT.2.1, by rw [g1]; exact hT.2.2.1, fun t' ht' => ?_⟩
    unfold upT
    by_cases e : t' = t
    · rw [if_pos e, e]; exact g3
    · rw [if_neg e]; exact g4 t' ht' e
  · rw [if_neg h]
    refine zw.t rfl (zw.s ⟨iv, rfl, fQ.rf, ?_⟩)
    rw [if_neg h]
    exact ⟨rfl, hT⟩
theorem c_feed {n v : Int32} (hC : cTop b K rv) (hL : cTex b K rv) (hT : cT b iv tp nt tx lk) (hd : dT tp nt tx lk) (hN : 100 < N) :
    zw (fX7_feed N (K, iv, rv, lv) b n v) (fun q => q.1 = (spFeed tp n v).1 ∧ ∃ iv', q.2 = (K, iv', rv, lv) ∧ cT b iv' (spFeed tp n v).2 nt tx lk ∧ fQ (aTex b) iv iv') := by
  have hn := hd.2.1
  have h60 := hd.1
  obtain ⟨k1, k2, k3, k4, k5, k6⟩ := hL
  unfold fX7_feed fX7_feed_0 fX7_feed_10
  by_cases h1 : n < 1
  · refine zw.t h1 (zw.s ?_)
    have e : spFeed tp n v = (-1, tp) := by unfold spFeed; rw [if_neg (fun q => q.1 h1)]
    rw [e]
    exact ⟨rfl, iv, rfl, hT, fQ.rf⟩
  · refine zw.f h1 ?_
    by_cases h2 : n ≤ (4 : Int32)
    · refine zw.t h2 ?_
      have h14 : ¬ n < 1 ∧ ¬ 4 < n := ⟨h1, Int32.not_lt.mpr h2⟩
      obtain ⟨m, hm1, hm4, rfl⟩ := in14 h14
      have hc : (nI m).toNatClampNeg = m := nI_clamp (by omega)
      refine zw.e (zgr_at hC.1 hC.2.1) ?_
      refine zw.e (zgr_at k1 k2) ?_
      refine zw.e (zgi_v k4.1 hT.1.1) ?_
      rw [nI_add]
      by_cases h3 : tp.length + m ≤ 60
      · refine zw.t (nI_le h3 (by decide)) ?_
        have e : spFeed tp (nI m) v = (nI (tp.length + m), tp ++ fdB m v) := by unfold spFeed; rw [if_pos h14, hc, if_pos h3]
        rw [e]
        unfold lX7_feed_37
        refine zw.loop (fun t y => ∃ k iv1, k + t = m ∧ y = ((K, iv1, rv, lv), nI m, v, b + 2, nI k) ∧ cR iv1 (b + 2) (tp ++ fdB k v) ∧ fQ (fun a => a = b + 2 ∨ a = b + 3) iv iv1) ?_ N m _ (by omega) ⟨0, iv, by omega, rfl, by simpa [fdB] using hT.1, fQ.rf⟩
        rintro t ⟨S, x1, x2, x3, x4⟩ Kc ⟨k, iv1, hk, hy, g, f⟩ ih
        cases hy
        dsimp only
        have hlen : (tp ++ fdB k v).length = tp.length + k := by simp [fdB]
        unfold fX7_feed_37
        by_cases ht : t = 0
        · have : k = m := by omega
          subst this
          refine zw.t (Int32.le_refl _) ?_
          refine zw.e (zgi_v k4.1 g.1) ?_
          refine zw.s ⟨by rw [hlen], iv1, rfl, ⟨g, by rw [f _ _ (by omega)]; exact hT.2.1, by rw [f _ _ (by omega)]; exact hT.2.2.1, fun t' ht' => (hT.2.2.2 t' ht').fr f (by omega) (by omega)⟩, f.mo (fun a h => by omega)⟩
        · refine zw.f (nI_ge (show k < m by omega) (by omega)) ?_
          refine zw.e (zrc_at k4.1) ?_
          refine zw.c2 (c_put k4 g (by rw [hlen]; omega) (by decide)) ?_
          rintro r S ⟨hr, -⟩
          obtain ⟨-, iv2, rfl, f2, g2⟩ := hr (by rw [hlen]; omega)
          refine ih (t - 1) _ (by omega) ⟨k + 1, iv2, by omega, by rw [nI_1 k], ?_, f.tr (f2.mo (fun a h => by omega))⟩
          have e : tp ++ fdB (k + 1) v = (tp ++ fdB k v) ++ [(v >>> (((8 : Int32) * nI k) &&& 31)) &&& 255] := by simp [fdB, List.range_succ]
          rw [e, show (8 : Int32) * nI k = nI (8 * k) from nI_mul 8 k, byte_sh v (by omega)]
          rw [show (8 : Int32) * nI k = nI (8 * k) from nI_mul 8 k] at g2
          exact g2
      · refine zw.f (nI_ge (show 60 < tp.length + m by omega) (by omega)) (zw.s ?_)
        have e : spFeed tp (nI m) v = (-3, tp) := by unfold spFeed; rw [if_pos h14, hc, if_neg h3]
        rw [e]
        exact ⟨rfl, iv, rfl, hT, fQ.rf⟩
    · refine zw.f h2 (zw.s ?_)
      have e : spFeed tp n v = (-1, tp) := by unfold spFeed; rw [if_neg (fun q => q.2 (Int32.not_le.mp h2))]
      rw [e]
      exact ⟨rfl, iv, rfl, hT, fQ.rf⟩
/-- a set with one place set anew -/
theorem with_bit {x y : Int32} {k : Nat} {P : Nat → Bool} (hx : isS x P) (hk : k < 32) (hy : inR 2 y) : isS ((x &&& (((1 : Int32) <<< (nI k &&& 31)) ^^^ (-1))) ||| (y <<< (nI k &&& 31))) (upB P k (decide (y = 1))) := by
  intro i hi
  rw [b_or, b_and, bt_not _ hi, bt_one hk hi, hx i hi]
  unfold upB
  rcases inR2 hy with rfl | rfl
  · rw [b_shl k hk _ hi, b_0]
    by_cases e : i = k
    · simp [e]
    · simp [e]
  · rw [bt_one hk hi]
    by_cases e : i = k
    · simp [e]
    · simp [e]
theorem zush_1 {x : Int32} {k : Nat} {P : Nat → Bool} (hx : isS x P) (hk : k < 32) : zush x (nI k) &&& 1 = if P k then 1 else 0 := by
  cases h : P k with
  | true => rw [if_pos rfl]; exact (ush_1 hk).mpr (by rw [hx k hk, h])
  | false => rw [if_neg (by decide)]; exact (ush_0 hk).mpr (by rw [hx k hk, h])
theorem c_lack {x y : Int32} (hC : cTop b K rv) (hL : cTex b K rv) (hT : cT b iv tp nt tx lk) (hd : dT tp nt tx lk) :
    zw (fX7_lack N (K, iv, rv, lv) b x y) (fun q => ∃ iv', q.2 = (K, iv', rv, lv) ∧ fQ (aTex b) iv iv' ∧ if inR nt x ∧ inR 2 y then q.1 = (if lk x.toNatClampNeg then 1 else 0) ∧ cT b iv' tp nt tx (upB lk x.toNatClampNeg (decide (y = 1))) else q.1 = -1 ∧ cT b iv' tp nt tx lk) := by
  have hn := hd.2.1
  unfold fX7_lack fX7_lack_0 fX7_lack_15
  refine zw.e (zrc_at hC.1) ?_
  refine zw.e2 (c_isText hC hL hT) ?_
  by_cases h : inR nt x
  · rw [if_pos h]
    refine zw.f (by decide) ?_
    refine zw.e2 c_isBit ?_
    by_cases h2 : inR 2 y
    · rw [if_pos h2]
      refine zw.f (by decide) ?_
      obtain ⟨t, ht, rfl⟩ := h.at (by omega)
      refine zw.e (zgr_at hC.1 hC.2.1) ?_
      refine zw.e (zgi_at hL.1) ?_
      unfold zlet
      refine zw.e (zgr_at hC.1 hC.2.1) ?_
      refine zw.e (zgr_at hC.1 hC.2.1) ?_
      refine zw.e (zgi_at hL.1) ?_
      unfold fX7_withBit fX7_withBit_0
      refine zw.e2 rfl ?_
      refine zw.e (zpi_at hL.1) ?_
      have f2 : ∀ v : Int32, fQ (fun a => a = b + 1) iv (zu iv (b + 1) 3 v) := fun v => fQ.put (A := fun a => a = b + 1) fQ.rf rfl _ _
      refine zw.s ⟨_, rfl, (f2 _).mo (fun a h => by omega), ?_⟩
      rw [if_pos ⟨h, h2⟩, nI_clamp (show t < 2 ^ 31 by omega)]
      refine ⟨zush_1 hT.2.2.1 (by omega), hT.1.fr (f2 _) (by omega) (by omega), by rw [zu_o (by omega)]; exact hT.2.1, ?_, fun t' ht' => (hT.2.2.2 t' ht').fr (f2 _) (by omega) (by omega)⟩
      rw [zu_s]
      exact with_bit hT.2.2.1 (by omega) h2
    · rw [if_neg h2]
      refine zw.t rfl (zw.s ⟨iv, rfl, fQ.rf, ?_⟩)
      rw [if_neg (fun q => h2 q.2)]
      exact ⟨rfl, hT⟩
  · rw [if_neg h]
    refine zw.t rfl (zw.s ⟨iv, rfl, fQ.rf, ?_⟩)
    rw [if_neg (fun q => h q.1)]
    exact ⟨rfl, hT⟩
/-- the class's words -/
def cW (b : Nat) (iv : Nat → Nat → Int32) (wd : Nat → Nat → Int32) : Prop := ∀ r w, r < 8 → w < 8 → iv (b + 55 + r) w = wd r w
abbrev aWor (b : Nat) : Nat → Prop := fun a => b + 55 ≤ a ∧ a < b + 63
theorem cW.fr {iv' : Nat → Nat → Int32} {A : Nat → Prop} {wd : Nat → Nat → Int32} (h : cW b iv wd) (hf : fQ A iv iv') (hA : ∀ a, b + 55 ≤ a → a < b + 63 → ¬ A a) : cW b iv' wd := fun r w hr hw => by
  rw [hf _ _ (hA _ (by omega) (by omega))]
  exact h r w hr hw
theorem in_255 {x : Int32} : (¬ x < 0 ∧ x ≤ 255) ↔ inR 256 x := by
  rw [← in_lit (n := 255) (by decide)]
  rw [show nI 255 = 255 from rfl, Int32.not_lt (a := 255)]
theorem c_word {wd : Nat → Nat → Int32} {x y v : Int32} (hC : cTop b K rv) (hL : cWor b K rv) (hW : cW b iv wd) :
    zw (fX7_word N (K, iv, rv, lv) b x y v) (fun q => ∃ iv', q.2 = (K, iv', rv, lv) ∧ fQ (aWor b) iv iv' ∧ if inR 8 x ∧ inR 8 y ∧ inR 256 v then q.1 = wd x.toNatClampNeg y.toNatClampNeg ∧ cW b iv' (zu wd x.toNatClampNeg y.toNatClampNeg v) else q.1 = -1 ∧ cW b iv' wd) := by
  unfold fX7_word fX7_word_0 fX7_word_25
  have bad : ¬ (inR 8 x ∧ inR 8 y ∧ inR 256 v) → zw (some ((-1 : Int32), ((K, iv, rv, lv) : zS))) (fun q => ∃ iv', q.2 = (K, iv', rv, lv) ∧ fQ (aWor b) iv iv' ∧ if inR 8 x ∧ inR 8 y ∧ inR 256 v then q.1 = wd x.toNatClampNeg y.toNatClampNeg ∧ cW b iv' (zu wd x.toNatClampNeg y.toNatClampNeg v) else q.1 = -1 ∧ cW b iv' wd) := fun h => zw.s ⟨iv, rfl, fQ.rf, by rw [if_neg h]; exact ⟨rfl, hW⟩⟩
  refine zw.e2 c_isRoom ?_
  by_cases h1 : inR 8 x
  · rw [if_pos h1]
    refine zw.f (by decide) ?_
    refine zw.e2 c_isWord ?_
    by_cases h2 : inR 8 y
    · rw [if_pos h2]
      refine zw.f (by decide) ?_
      by_cases h3 : v < 0
      · exact zw.t h3 (bad fun q => q.2.2.1 h3)
      · refine zw.f h3 ?_
        by_cases h4 : v ≤ 255
        · refine zw.t h4 ?_
          have h5 : inR 256 v := in_255.mp ⟨h3, h4⟩
          obtain ⟨r, hr, rfl⟩ := h1.at (by decide)
          obtain ⟨w, hw, rfl⟩ := h2.at (by decide)
          obtain ⟨e1, e2⟩ := hL.2 r hr
          refine zw.e (zgr_at hC.1 hC.2.2.2.1) ?_
          refine zw.e (zal_at hL.1 hr (by decide) e1) ?_
          refine zw.e (zil_v e2 rfl hw (by decide) (hW r w hr hw)) ?_
          refine zw.e (zgr_at hC.1 hC.2.2.2.1) ?_
          refine zw.e (zal_at hL.1 hr (by decide) e1) ?_
          refine zw.e (zis_v e2 rfl hw (by decide)) ?_
          refine zw.s ⟨_, rfl, fQ.rf.put ⟨by omega, by omega⟩ _ _, ?_⟩
          rw [if_pos ⟨h1, h2, h5⟩, nI_clamp (show r < 2 ^ 31 by omega), nI_clamp (show w < 2 ^ 31 by omega)]
          refine ⟨rfl, fun r' w' hr' hw' => ?_⟩
          by_cases e : r' = r ∧ w' = w
          · rw [e.1, e.2, zu_s, zu_s]
          · rw [zu_o (by omega), zu_o e]
            exact hW r' w' hr' hw'
        · exact zw.f h4 (bad fun q => h4 (in_255.mpr q.2.2).2)
    · rw [if_neg h2]
      exact zw.t rfl (bad fun q => h2 q.2.1)
  · rw [if_neg h1]
    exact zw.t rfl (bad fun q => h1 q.1)
/-- the words in which two rooms differ -/
def unl (wd : Nat → Nat → Int32) (p q : Nat) : Nat → Bool := fun w => decide (w < 8) && decide (wd p w ≠ wd q w)
theorem c_unlikeWords {wd : Nat → Nat → Int32} {p q : Nat} (hC : cTop b K rv) (hL : cWor b K rv) (hW : cW b iv wd) (hp : p < 8) (hq : q < 8) (hN : 100 < N) : zw (fX7_unlikeWords N (K, iv, rv, lv) b (nI p) (nI q)) (fun z => z = (ofS (unl wd p q), (K, iv, rv, lv))) := by
  obtain ⟨e1, e2⟩ := hL.2 p hp
  obtain ⟨e3, e4⟩ := hL.2 q hq
  unfold fX7_unlikeWords fX7_unlikeWords_0 lX7_unlikeWords_5
  refine zw.loop (fun t y => ∃ k z, k + t = 8 ∧ y = ((K, iv, rv, lv), b, nI p, nI q, z, nI k) ∧ isS z (fun w => decide (w < k) && decide (wd p w ≠ wd q w))) ?_ N 8 _ (by omega) ⟨0, 0, by omega, rfl, isS.zero fun i hi => by simp⟩
  rintro t ⟨S, x0, x1, x2, x3, x4⟩ Kc ⟨k, z, hk, hy, g⟩ ih
  cases hy
  dsimp only
  unfold fX7_unlikeWords_5 fX7_unlikeWords_40 zlet
  by_cases ht : t = 0
  · have : k = 8 := by omega
    subst this
    exact zw.t (by decide) (zw.s (by rw [isS.of g]; rfl))
  · refine zw.f (nI_ge (show k < 8 by omega) (by decide)) ?_
    refine zw.e (zgr_at hC.1 hC.2.2.2.1) ?_
    refine zw.e (zal_at hL.1 hp (by decide) e1) ?_
    refine zw.e (zil_v e2 rfl (by omega) (by decide) (hW p k hp (by omega))) ?_
    refine zw.e (zgr_at hC.1 hC.2.2.2.1) ?_
    refine zw.e (zal_at hL.1 hq (by decide) e3) ?_
    refine zw.e (zil_v e4 rfl (by omega) (by decide) (hW q k hq (by omega))) ?_
    have hs : ∀ i, (decide (i < k + 1) && decide (wd p i ≠ wd q i)) = ((decide (i < k) && decide (wd p i ≠ wd q i)) || (decide (i = k) && decide (wd p k ≠ wd q k))) := fun i => by
      by_cases e : i = k
      · subst e; simp
      · have : (i < k + 1) = (i < k) := by apply propext; omega
        simp [e, this]
    refine zw.it (fun c => ih (t - 1) _ (by omega) ⟨k + 1, x3, by omega, by rw [nI_1 k], fun i hi => ?_⟩) (fun c => ih (t - 1) _ (by omega) ⟨k + 1, _, by omega, by rw [nI_1 k], fun i hi => ?_⟩)
    · rw [g i hi]
      dsimp only
      rw [hs]
      simp [c]
    · rw [bt_set (by omega) hi, g i hi]
      dsimp only
      rw [hs]
      simp [c]
theorem unl_ct {wd : Nat → Nat → Int32} {p q : Nat} : bC (ofS (unl wd p q)) = nDif wd p q 8 := by
  rw [(isS_ofS _).bC]
  have h1 := fb_ct_split (unl wd p q) 8 24
  have h2 : fb_ct (fun k => unl wd p q (8 + k)) 24 = 0 := fb_ct_zero.mpr fun k _ => by
    unfold unl
    rw [decide_eq_false (by omega)]
    rfl
  rw [show (8 : Nat) + 24 = 32 from rfl] at h1
  rw [h1, h2]
  unfold nDif
  rw [Nat.add_zero]
  exact fb_ct_cong fun k hk => by unfold unl; rw [decide_eq_true hk]; rfl
theorem c_copy {wd : Nat → Nat → Int32} {x y : Int32} (hC : cTop b K rv) (hL : cWor b K rv) (hW : cW b iv wd) (hN : 100 < N) :
    zw (fX7_copy N (K, iv, rv, lv) b x y) (fun q => ∃ iv', q.2 = (K, iv', rv, lv) ∧ fQ (aWor b) iv iv' ∧ if inR 8 x ∧ inR 8 y then q.1 = nI (nDif wd x.toNatClampNeg y.toNatClampNeg 8) ∧ cW b iv' (cpW wd x.toNatClampNeg y.toNatClampNeg) else q.1 = -1 ∧ cW b iv' wd) := by
  unfold fX7_copy fX7_copy_0
  refine zw.e2 c_areRooms ?_
  by_cases h : inR 8 x ∧ inR 8 y
  · rw [if_pos h]
    refine zw.f (by decide) ?_
    obtain ⟨p, hp, rfl⟩ := h.1.at (by decide)
    obtain ⟨q, hq, rfl⟩ := h.2.at (by decide)
    obtain ⟨e1, e2⟩ := hL.2 p hp
    obtain ⟨e3, e4⟩ := hL.2 q hq
    refine zw.e (zrc_at hC.1) ?_
    refine zw.c2 (c_unlikeWords hC hL hW hp hq hN) ?_
    intro v S e
    cases e
    refine zw.e2 j_bitCount ?_
    refine zw.e (zgr_at hC.1 hC.2.2.2.1) ?_
    refine zw.e (zal_at hL.1 hp (by decide) e1) ?_
    refine zw.e (zgr_at hC.1 hC.2.2.2.1) ?_
    refine zw.e (zal_at hL.1 hq (by decide) e3) ?_
    refine zw.e (zcp_at (s := 0) (d := 0) (k := 8) e2 e4 (by decide) (by decide) (by decide) (by decide)) ?_
    refine zw.s ⟨_, rfl, fQ.rf.ro ⟨by omega, by omega⟩ _, ?_⟩
    rw [if_pos h, nI_clamp (show p < 2 ^ 31 by omega), nI_clamp (show q < 2 ^ 31 by omega), unl_ct]
    refine ⟨rfl, fun r w hr hw => ?_⟩
    unfold cpW
    by_cases e : r = q
    · rw [if_pos e, e]
      simp only [zro, if_true, va_cpy, if_pos (show 0 ≤ w ∧ w < 0 + 8 by omega), Nat.zero_add, Nat.sub_zero]
      exact hW p w hp hw
    · rw [if_neg e]
      simp only [zro, if_neg (show ¬ b + 55 + r = b + 55 + q by omega)]
      exact hW r w hr hw
  · rw [if_neg h]
    exact zw.t rfl (zw.s ⟨iv, rfl, fQ.rf, by rw [if_neg h]; exact ⟨rfl, hW⟩⟩)
end C1
