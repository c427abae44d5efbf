/-! the model: tests of ranges, tape and texts -/
section M1
variable {N b : Nat} {K : Nat → Option (Nat × Nat)} {iv : Nat → Nat → Int32} {rv : Nat → Nat → Option Nat} {lv : Nat → Nat → Int64} {S : zS}
theorem m_in {x lo hi : Int32} : fX8_in N S x lo hi = some (if ¬ x < lo ∧ ¬ hi < x then 1 else 0, S) := by
  unfold fX8_in fX8_in_0 fX8_in_14 fX8_in_15
  by_cases h1 : x < lo <;> by_cases h2 : hi < x <;> simp [h1, h2] <;> decide
theorem in_R {x : Int32} {n : Nat} (hn : n < 2 ^ 31) : (¬ x < 0 ∧ ¬ nI n - 1 < x) ↔ inR n x := by
  unfold inR
  have e1 : nI n - 1 = Int32.ofInt ((n : Int) - 1) := by
    rw [Int32.ofInt_sub]
    rfl
  rw [e1]
  simp only [Int32.lt_iff_toInt_lt, nI_toInt hn, Int32.toInt_ofInt_of_le (show -2 ^ 31 ≤ (n : Int) - 1 by omega) (show (n : Int) - 1 < 2 ^ 31 by omega)]
  constructor
  · intro h; constructor <;> omega
  · intro h; constructor <;> omega
/-- the model's tape and texts -/
def mT (b : Nat) (iv : Nat → Nat → Int32) (tp : List Int32) (nt : Nat) (tx : Nat → List Int32) (lk : Nat → Bool) : Prop :=
  iv b 2 = nI tp.length ∧ aH iv (b + 1) 0 tp ∧ iv b 3 = nI nt ∧ (∀ t, t < nt → iv (b + 2) t = nI (tx t).length) ∧ (∀ t, t < nt → aH iv (b + 3) (60 * t) (tx t)) ∧ ∀ t, t < 20 → iv (b + 4) t = if lk t then 1 else 0
/-- what is known of tape and texts by themselves -/
def isB (x : Int32) : Prop := ∃ v, v < 256 ∧ x = nI v
def dT (tp : List Int32) (nt : Nat) (tx : Nat → List Int32) (lk : Nat → Bool) : Prop := tp.length ≤ 60 ∧ nt ≤ 20 ∧ (∀ t, t < nt → (tx t).length ≤ 60) ∧ (∀ t, nt ≤ t → lk t = false) ∧ (∀ x ∈ tp, isB x) ∧ ∀ t, t < nt → ∀ x ∈ tx t, isB x
theorem mT.fr {iv' : Nat → Nat → Int32} {tp : List Int32} {nt : Nat} {tx : Nat → List Int32} {lk : Nat → Bool} {rs ks : List Nat} (h : mT b iv tp nt tx lk) (hf : fM b rs ks iv iv') (h1 : 0 ∉ rs ∧ 1 ∉ rs ∧ 2 ∉ rs ∧ 3 ∉ rs ∧ 4 ∉ rs) (h2 : 2 ∉ ks ∧ 3 ∉ ks) : mT b iv' tp nt tx lk := by
  obtain ⟨a1, a2, a3, a4, a5, a6⟩ := h
  exact ⟨by rw [hf.fld h1.1 h2.1]; exact a1, a2.eq fun k _ => hf.arr (by decide) h1.2.1 _, by rw [hf.fld h1.1 h2.2]; exact a3, fun t ht => by rw [hf.arr (by decide) h1.2.2.1]; exact a4 t ht, fun t ht => (a5 t ht).eq fun k _ => hf.arr (by decide) h1.2.2.2.1 _, fun t ht => by rw [hf.arr (by decide) h1.2.2.2.2]; exact a6 t ht⟩
theorem m_isText {tp : List Int32} {nt : Nat} {tx : Nat → List Int32} {lk : Nat → Bool} {x : Int32} (hL : mL b K rv) (hT : mT b iv tp nt tx lk) (hd : dT tp nt tx lk) : fX8_isText N (K, iv, rv, lv) b x = some (if inR nt x then 1 else 0, (K, iv, rv, lv)) := by
  unfold fX8_isText fX8_isText_0
  rw [zgi_v hL.o hT.2.2.1]
  simp only [Option.bind_some, m_in, zb2]
  have hn : nt < 2 ^ 31 := by have := hd.2.1; omega
  have h0 : (¬ x < 0 ∧ ¬ nI nt - 1 < x) ↔ inR nt x := in_R hn
  by_cases h : inR nt x
  · rw [if_pos h, if_pos (h0.mpr h)]
    rfl
  · rw [if_neg h, if_neg (fun q => h (h0.mp q))]
    rfl
/-- the n bytes that feed takes of v -/
def fdB (n : Nat) (v : Int32) : List Int32 := (List.range n).map fun k => (v >>> (((8 : Int32) * nI k) &&& 31)) &&& 255
theorem m_feed_loop {tp : List Int32} {nt : Nat} {tx : Nat → List Int32} {lk : Nat → Bool} {n : Nat} {v : Int32} (hL : mL b K rv) (hT : mT b iv tp nt tx lk) (h60 : tp.length + n ≤ 60) (hN : n < N) :
    zw (lX8_feed_27 N (K, iv, rv, lv) b (nI n) v 0) (fun q => q.1 = nI (tp.length + n) ∧ ∃ iv', q.2 = (K, iv', rv, lv) ∧ mT b iv' (tp ++ fdB n v) nt tx lk ∧ fM b [1] [2] iv iv') := by
  unfold lX8_feed_27
  refine zw.loop (fun m y => ∃ k iv1, k + m = n ∧ y = ((K, iv1, rv, lv), b, nI n, v, nI k) ∧ mT b iv1 (tp ++ fdB k v) nt tx lk ∧ fM b [1] [2] iv iv1) ?_ N n _ hN ⟨0, iv, by omega, rfl, by simpa [fdB] using hT, fun _ _ _ _ => rfl⟩
  rintro m ⟨S, x0, x1, x2, x3⟩ Kc ⟨k, iv1, hk, hy, hT1, hf⟩ ih
  cases hy
  have hlen : (tp ++ fdB k v).length = tp.length + k := by simp [fdB]
  dsimp only
  unfold fX8_feed_27
  by_cases hm : m = 0
  · subst hm
    have hk' : k = n := by omega
    subst hk'
    refine zw.t (show nI k ≤ nI k from Int32.le_refl _) ?_
    refine zw.e (zgi_v hL.o hT1.1) ?_
    exact zw.s ⟨by rw [hlen], iv1, rfl, hT1, hf⟩
  · refine zw.f (nI_ge (show k < n by omega) (by omega)) ?_
    refine zw.e (zgr_at hL.o hL.r_tape) ?_
    refine zw.e (zgi_v hL.o hT1.1) ?_
    refine zw.e (zis_v hL.k_tape rfl (by rw [hlen]; omega) (by decide)) ?_
    refine zw.e (zgi_v (x := nI (tp ++ fdB k v).length) hL.o (by rw [zu_o (by omega)]; exact hT1.1)) ?_
    refine zw.e (zpi_at hL.o) ?_
    refine ih (m - 1) _ (by omega) ⟨k + 1, _, by omega, by rw [nI_1 k], ?_, (hf.put (by simp) _ _).puf (by simp) _⟩
    have e : tp ++ fdB (k + 1) v = (tp ++ fdB k v) ++ [(v >>> (((8 : Int32) * nI k) &&& 31)) &&& 255] := by simp [fdB, List.range_succ]
    rw [e]
    obtain ⟨a1, a2, a3, a4, a5, a6⟩ := hT1
    refine ⟨?_, ?_, ?_, fun t ht => ?_, fun t ht => ((a5 t ht).ne (by omega)).ne (by omega), fun t ht => ?_⟩
    · rw [zu_s, nI_1 (tp ++ fdB k v).length]
      congr 1
      simp
      omega
    · have h9 := (a2.snoc ((v >>> (((8 : Int32) * nI k) &&& 31)) &&& 255)).ne (a' := b) (i := 2) (x := nI (tp ++ fdB k v).length + 1) (by omega)
      rw [Nat.zero_add] at h9
      exact h9
    · rw [zu_o (by omega), zu_o (by omega)]; exact a3
    · rw [zu_o (by omega), zu_o (by omega)]; exact a4 t ht
    · rw [zu_o (by omega), zu_o (by omega)]; exact a6 t ht
/-- feed: the answer, and the new tape -/
def spFeed (tp : List Int32) (n v : Int32) : Int32 × List Int32 :=
  if ¬ n < 1 ∧ ¬ 4 < n then (if tp.length + n.toNatClampNeg ≤ 60 then (nI (tp.length + n.toNatClampNeg), tp ++ fdB n.toNatClampNeg v) else (-3, tp)) else (-1, tp)
theorem in14 {x : Int32} (h : ¬ x < 1 ∧ ¬ 4 < x) : ∃ n, 1 ≤ n ∧ n ≤ 4 ∧ x = nI n := by
  obtain ⟨k, hk, e⟩ := nI_in2 (x := x) (n := 5) (by
    intro q
    apply h.1
    rw [Int32.lt_iff_toInt_lt] at *
    have : (0 : Int32).toInt = 0 := rfl
    have : (1 : Int32).toInt = 1 := rfl
    omega) (by
    have h2 := h.2
    rw [Int32.lt_iff_toInt_lt] at *
    have : (4 : Int32).toInt = 4 := rfl
    have : (nI 5).toInt = 5 := rfl
    omega) (by decide)
  refine ⟨k, ?_, by omega, e⟩
  rcases Nat.eq_zero_or_pos k with h0 | h0
  · subst h0
    rw [e] at h
    exact absurd (by decide) h.1
  · exact h0
theorem m_feed {tp : List Int32} {nt : Nat} {tx : Nat → List Int32} {lk : Nat → Bool} {n v : Int32} (hL : mL b K rv) (hT : mT b iv tp nt tx lk) (hd : dT tp nt tx lk) (hN : 100 < N) :
    zw (fX8_feed N (K, iv, rv, lv) b n v) (fun q => q.1 = (spFeed tp n v).1 ∧ ∃ iv', q.2 = (K, iv', rv, lv) ∧ mT b iv' (spFeed tp n v).2 nt tx lk ∧ fM b [1] [2] iv iv') := by
  unfold fX8_feed fX8_feed_0 spFeed
  refine zw.e2 m_in ?_
  by_cases h : ¬ n < 1 ∧ ¬ 4 < n
  · rw [if_pos h, if_pos h]
    refine zw.f (by decide) ?_
    obtain ⟨k, h1, h4, rfl⟩ := in14 h
    have hc : (nI k).toNatClampNeg = k := nI_clamp (by omega)
    have hl := hd.1
    rw [hc]
    refine zw.e (zgi_v hL.o hT.1) ?_
    rw [nI_add]
    by_cases h6 : tp.length + k ≤ 60
    · rw [if_pos h6]
      exact zw.t (nI_le h6 (by decide)) (m_feed_loop hL hT h6 (by omega))
    · rw [if_neg h6]
      exact zw.f (nI_ge (show 60 < tp.length + k by omega) (by omega)) (zw.s ⟨rfl, iv, rfl, hT, fM.rf⟩)
  · rw [if_neg h, if_neg h]
    exact zw.t rfl (zw.s ⟨rfl, iv, rfl, hT, fM.rf⟩)
/-- keep: the tape becomes text t -/
theorem m_keep {tp : List Int32} {t : Nat} (hL : mL b K rv) (h1 : iv b 2 = nI tp.length) (h2 : aH iv (b + 1) 0 tp) (h60 : tp.length ≤ 60) (ht : t < 20) (hN : 100 < N) :
    zw (fX8_keep N (K, iv, rv, lv) b (nI t)) (fun q => q.1 = nI tp.length ∧ ∃ iv', q.2 = (K, iv', rv, lv) ∧ iv' b 2 = 0 ∧ iv' (b + 2) t = nI tp.length ∧ (∀ j, j ≠ t → iv' (b + 2) j = iv (b + 2) j) ∧ aH iv' (b + 3) (60 * t) tp ∧ (∀ j, (j < 60 * t ∨ 60 * t + 60 ≤ j) → iv' (b + 3) j = iv (b + 3) j) ∧ fM b [2, 3] [2] iv iv') := by
  unfold fX8_keep fX8_keep_0
  refine zw.e (zgi_v hL.o h1) ?_
  refine zw.e (zgr_at hL.o hL.r_textSize) ?_
  refine zw.e (zis_v hL.k_textSize rfl ht (by decide)) ?_
  unfold lX8_keep_14
  refine zw.loop (fun m y => ∃ k iv1, k + m = tp.length ∧ y = ((K, iv1, rv, lv), b, nI t, nI tp.length, nI k) ∧ iv1 (b + 2) t = nI tp.length ∧ (∀ j, j ≠ t → iv1 (b + 2) j = iv (b + 2) j) ∧ aH iv1 (b + 3) (60 * t) (tp.take k) ∧ (∀ j, (j < 60 * t ∨ 60 * t + 60 ≤ j) → iv1 (b + 3) j = iv (b + 3) j) ∧ fM b [2, 3] [2] iv iv1) ?_ N tp.length _ (by omega) ⟨0, _, by omega, rfl, zu_s, fun j hj => zu_o (by omega), aH.nil, fun j hj => zu_o (by omega), fM.rf.put (by simp) _ _⟩
  rintro m ⟨S, x0, x1, x2, x3⟩ Kc ⟨k, iv1, hk, hy, g1, g2, g3, g4, hf⟩ ih
  cases hy
  dsimp only
  unfold fX8_keep_14
  by_cases hm : m = 0
  · subst hm
    have hk' : k = tp.length := by omega
    subst hk'
    refine zw.t (Int32.le_refl _) ?_
    refine zw.e (zpi_at hL.o) ?_
    rw [List.take_length] at g3
    exact zw.s ⟨rfl, _, rfl, zu_s, by rw [zu_o (by omega)]; exact g1, fun j hj => by rw [zu_o (by omega)]; exact g2 j hj, g3.ne (by omega), fun j hj => by rw [zu_o (by omega)]; exact g4 j hj, hf.puf (by simp) _⟩
  · refine zw.f (nI_ge (show k < tp.length by omega) (by omega)) ?_
    refine zw.e (zgr_at hL.o hL.r_textBytes) ?_
    refine zw.e (zgr_at hL.o hL.r_tape) ?_
    refine zw.e (zil_v (x := tp.getD k 0) hL.k_tape rfl (by omega) (by decide) (by rw [hf.arr (by decide) (by decide)]; have := h2 k (by omega); rwa [Nat.zero_add] at this)) ?_
    refine zw.e (zis_v (j := 60 * t + k) hL.k_textBytes (by rw [← nI_add, ← nI_mul]; rfl) (by omega) (by decide)) ?_
    refine ih (m - 1) _ (by omega) ⟨k + 1, _, by omega, by rw [nI_1 k], by rw [zu_o (by omega)]; exact g1, fun j hj => by rw [zu_o (by omega)]; exact g2 j hj, ?_, fun j hj => by rw [zu_o (by omega)]; exact g4 j hj, hf.put (by simp) _ _⟩
    rw [take_snoc (show k < tp.length by omega)]
    have h9 := g3.snoc (tp.getD k 0)
    rw [List.length_take, Nat.min_eq_left (by omega)] at h9
    exact h9
/-- text t is the list L -/
def upT (tx : Nat → List Int32) (t : Nat) (L : List Int32) : Nat → List Int32 := fun j => if j = t then L else tx j
theorem mT.keep {iv' : Nat → Nat → Int32} {tp : List Int32} {nt : Nat} {tx : Nat → List Int32} {lk : Nat → Bool} {t : Nat} (h : mT b iv tp nt tx lk) (hd : dT tp nt tx lk) (h2 : iv' b 2 = 0) (h3 : iv' (b + 2) t = nI tp.length) (h4 : ∀ j, j ≠ t → iv' (b + 2) j = iv (b + 2) j) (h5 : aH iv' (b + 3) (60 * t) tp) (h6 : ∀ j, (j < 60 * t ∨ 60 * t + 60 ≤ j) → iv' (b + 3) j = iv (b + 3) j) (h7 : fM b [2, 3] [2] iv iv') : mT b iv' [] nt (upT tx t tp) lk := by
  obtain ⟨a1, a2, a3, a4, a5, a6⟩ := h
  refine ⟨h2, aH.nil, by rw [h7.fld (by decide) (by decide)]; exact a3, fun j hj => ?_, fun j hj => ?_, fun j hj => by rw [h7.arr (by decide) (by decide)]; exact a6 j hj⟩
  · unfold upT
    by_cases e : j = t
    · rw [if_pos e, e]; exact h3
    · rw [if_neg e, h4 j e]; exact a4 j hj
  · unfold upT
    by_cases e : j = t
    · rw [if_pos e, e]; exact h5
    · rw [if_neg e]
      have hl := hd.2.2.1 j hj
      exact (a5 j hj).eq fun k hk => h6 _ (by omega)
theorem m_text {tp : List Int32} {nt : Nat} {tx : Nat → List Int32} {lk : Nat → Bool} (hL : mL b K rv) (hT : mT b iv tp nt tx lk) (hd : dT tp nt tx lk) (hN : 100 < N) :
    zw (fX8_text N (K, iv, rv, lv) b) (fun q => ∃ iv', q.2 = (K, iv', rv, lv) ∧ fM b [2, 3] [2, 3] iv iv' ∧ if nt = 20 then q.1 = -3 ∧ mT b iv' tp nt tx lk else q.1 = nI nt ∧ mT b iv' [] (nt + 1) (upT tx nt tp) lk) := by
  have hn := hd.2.1
  unfold fX8_text fX8_text_0
  refine zw.e (zgi_v hL.o hT.2.2.1) ?_
  by_cases h : nt = 20
  · subst h
    refine zw.t rfl (zw.s ⟨iv, rfl, fM.rf, ?_⟩)
    rw [if_pos rfl]
    exact ⟨rfl, hT⟩
  · refine zw.f (fun q => h ((nI_eq (by omega) (by decide)).mp q)) ?_
    refine zw.e (zgi_v hL.o hT.2.2.1) ?_
    refine zw.e (zrc_at hL.o) ?_
    refine zw.c2 (m_keep hL hT.1 hT.2.1 hd.1 (show nt < 20 by omega) hN) ?_
    rintro v S ⟨-, iv1, rfl, g2, g3, g4, g5, g6, g7⟩
    have h8 := hT.keep hd g2 g3 g4 g5 g6 g7
    refine zw.e (zgi_v hL.o h8.2.2.1) ?_
    refine zw.e (zpi_at hL.o) ?_
    refine zw.e (zgi_at hL.o) ?_
    refine zw.s ⟨_, rfl, (g7.mo (by simp) (by simp)).puf (by simp) _, ?_⟩
    rw [if_neg h]
    obtain ⟨a1, a2, a3, a4, a5, a6⟩ := h8
    refine ⟨?_, by rw [zu_o (by omega)]; exact a1, aH.nil, by rw [zu_s, nI_1], fun j hj => ?_, fun j hj => ?_, fun j hj => by rw [zu_o (by omega)]; exact a6 j hj⟩
    · rw [zu_s, nI_1]
      exact nI_pred nt
    · rw [zu_o (by omega)]
      by_cases e : j = nt
      · subst e
        rw [g3]
        simp [upT]
      · exact a4 j (by omega)
    · by_cases e : j = nt
      · subst e
        have : upT tx j tp j = tp := by simp [upT]
        rw [this]
        exact g5.ne (by omega)
      · exact (a5 j (by omega)).ne (by omega)
theorem m_write {tp : List Int32} {nt : Nat} {tx : Nat → List Int32} {lk : Nat → Bool} {x : Int32} (hL : mL b K rv) (hT : mT b iv tp nt tx lk) (hd : dT tp nt tx lk) (hN : 100 < N) :
    zw (fX8_write N (K, iv, rv, lv) b x) (fun q => ∃ iv', q.2 = (K, iv', rv, lv) ∧ fM b [2, 3] [2] iv iv' ∧ if inR nt x then q.1 = nI tp.length ∧ mT b iv' [] nt (upT tx x.toNatClampNeg tp) lk else q.1 = -1 ∧ mT b iv' tp nt tx lk) := by
  have hn := hd.2.1
  unfold fX8_write fX8_write_0 fX8_write_17
  refine zw.e (zrc_at hL.o) ?_
  refine zw.e2 (m_isText hL hT hd) ?_
  by_cases h : inR nt x
  · rw [if_pos h]
    refine zw.f (by decide) ?_
    obtain ⟨t, ht, rfl⟩ := h.at (by omega)
    refine zw.e (zrc_at hL.o) ?_
    refine zw.c2 (m_keep hL hT.1 hT.2.1 hd.1 (show t < 20 by omega) hN) ?_
    rintro v S ⟨rfl, iv1, rfl, g2, g3, g4, g5, g6, g7⟩
    refine zw.s ⟨iv1, rfl, g7, ?_⟩
    rw [if_pos h, nI_clamp (show t < 2 ^ 31 by omega)]
    exact ⟨rfl, hT.keep hd g2 g3 g4 g5 g6 g7⟩
  · rw [if_neg h]
    refine zw.t rfl (zw.s ⟨iv, rfl, fM.rf, ?_⟩)
    rw [if_neg h]
    exact ⟨rfl, hT⟩
end M1
