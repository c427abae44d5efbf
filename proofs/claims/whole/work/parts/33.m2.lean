/-! the model: lack, word, copy, step, need, maker, forge, count -/
section M2
variable {N b : Nat} {K : Nat → Option (Nat × Nat)} {iv : Nat → Nat → Int32} {rv : Nat → Nat → Option Nat} {lv : Nat → Nat → Int64} {S : zS}
variable {tp : List Int32} {nt : Nat} {tx : Nat → List Int32} {lk : Nat → Bool}
/-- a range test with a literal end -/
theorem in_lit {x : Int32} {n : Nat} (hn : n < 2 ^ 31 - 1) : (¬ x < 0 ∧ ¬ nI n < x) ↔ inR (n + 1) x := by
  unfold inR
  simp only [Int32.lt_iff_toInt_lt, nI_toInt (show n < 2 ^ 31 by omega), nI_toInt (show n + 1 < 2 ^ 31 by omega)]
  constructor
  · intro h; constructor <;> omega
  · intro h; constructor <;> omega
theorem m_inR {x : Int32} {n : Nat} (hn : n < 2 ^ 31 - 1) : fX8_in N S x 0 (nI n) = some (if inR (n + 1) x then 1 else 0, S) := by
  rw [m_in]
  by_cases h : inR (n + 1) x
  · rw [if_pos h, if_pos ((in_lit hn).mpr h)]
  · rw [if_neg h, if_neg (fun q => h ((in_lit hn).mp q))]
theorem m_isRoom {x : Int32} : fX8_isRoom N S x = some (if inR 8 x then 1 else 0, S) := by
  unfold fX8_isRoom fX8_isRoom_0
  rw [show (7 : Int32) = nI 7 from rfl, m_inR (by decide)]
  by_cases h : inR 8 x
  · rw [if_pos h]
    exact congrArg (fun v => some (v, S)) (show (1 : Int32) &&& 1 = 1 by decide)
  · rw [if_neg h]
    exact congrArg (fun v => some (v, S)) (show (0 : Int32) &&& 1 = 0 by decide)
theorem m_isWord {x : Int32} : fX8_isWord N S x = some (if inR 8 x then 1 else 0, S) := by
  unfold fX8_isWord fX8_isWord_0
  rw [show (7 : Int32) = nI 7 from rfl, m_inR (by decide)]
  by_cases h : inR 8 x
  · rw [if_pos h]
    exact congrArg (fun v => some (v, S)) (show (1 : Int32) &&& 1 = 1 by decide)
  · rw [if_neg h]
    exact congrArg (fun v => some (v, S)) (show (0 : Int32) &&& 1 = 0 by decide)
theorem m_isMaker {x : Int32} : fX8_isMaker N S x = some (if inR 30 x then 1 else 0, S) := by
  unfold fX8_isMaker fX8_isMaker_0
  rw [show (29 : Int32) = nI 29 from rfl, m_inR (by decide)]
  by_cases h : inR 30 x
  · rw [if_pos h]
    exact congrArg (fun v => some (v, S)) (show (1 : Int32) &&& 1 = 1 by decide)
  · rw [if_neg h]
    exact congrArg (fun v => some (v, S)) (show (0 : Int32) &&& 1 = 0 by decide)
/-- one place of a table of truths -/
def upB {α : Type} (f : Nat → α) (t : Nat) (v : α) : Nat → α := fun j => if j = t then v else f j
theorem m_lack {x y : Int32} (hL : mL b K rv) (hT : mT b iv tp nt tx lk) (hd : dT tp nt tx lk) :
    zw (fX8_lack N (K, iv, rv, lv) b x y) (fun q => ∃ iv', q.2 = (K, iv', rv, lv) ∧ fM b [4] [] iv iv' ∧ if inR nt x ∧ inR 2 y then q.1 = (if lk x.toNatClampNeg then 1 else 0) ∧ mT b iv' tp nt tx (upB lk x.toNatClampNeg (decide (y = 1))) else q.1 = -1 ∧ mT b iv' tp nt tx lk) := by
  have hn := hd.2.1
  unfold fX8_lack fX8_lack_0 fX8_lack_17
  refine zw.e (zrc_at hL.o) ?_
  refine zw.e2 (m_isText hL hT hd) ?_
  by_cases h : inR nt x
  · rw [if_pos h]
    refine zw.f (by decide) ?_
    refine zw.e2 (m_inR (n := 1) (by decide)) ?_
    by_cases h2 : inR 2 y
    · rw [if_pos h2]
      refine zw.f (by decide) ?_
      obtain ⟨t, ht, rfl⟩ := h.at (by omega)
      have hc : (nI t).toNatClampNeg = t := nI_clamp (by omega)
      refine zw.e (zgr_at hL.o hL.r_lacking) ?_
      refine zw.e (zzl_v hL.k_lacking rfl (by omega) (by decide) (hT.2.2.2.2.2 t (by omega))) ?_
      have fin : ∀ r : Int32, r = (if lk t then 1 else 0) → zw (fX8_lack_33 N (K, iv, rv, lv) b (nI t) y r) (fun q => ∃ iv', q.2 = (K, iv', rv, lv) ∧ fM b [4] [] iv iv' ∧ if inR nt (nI t) ∧ inR 2 y then q.1 = (if lk (nI t).toNatClampNeg then 1 else 0) ∧ mT b iv' tp nt tx (upB lk (nI t).toNatClampNeg (decide (y = 1))) else q.1 = -1 ∧ mT b iv' tp nt tx lk) := by
        intro r hr
        unfold fX8_lack_33 fX8_lack_49
        refine zw.e (zgr_at hL.o hL.r_lacking) ?_
        have fin2 : ∀ w : Int32, w &&& 1 = (if decide (y = 1) then 1 else 0) → zw ((zzs (K, iv, rv, lv) (b + 4) (nI t) w).bind fun S1 => some (r, S1)) (fun q => ∃ iv', q.2 = (K, iv', rv, lv) ∧ fM b [4] [] iv iv' ∧ if inR nt (nI t) ∧ inR 2 y then q.1 = (if lk (nI t).toNatClampNeg then 1 else 0) ∧ mT b iv' tp nt tx (upB lk (nI t).toNatClampNeg (decide (y = 1))) else q.1 = -1 ∧ mT b iv' tp nt tx lk) := by
          intro w hw
          refine zw.e (zzs_v hL.k_lacking rfl (by omega) (by decide) hw) ?_
          refine zw.s ⟨_, rfl, fM.rf.put (by simp) _ _, ?_⟩
          rw [if_pos ⟨h, h2⟩, hc]
          obtain ⟨a1, a2, a3, a4, a5, a6⟩ := hT
          refine ⟨hr, by rw [zu_o (by omega)]; exact a1, a2.ne (by omega), by rw [zu_o (by omega)]; exact a3, fun j hj => by rw [zu_o (by omega)]; exact a4 j hj, fun j hj => (a5 j hj).ne (by omega), fun j hj => ?_⟩
          unfold upB
          by_cases e : j = t
          · subst e
            rw [zu_s, if_pos rfl]
          · rw [zu_o (by omega), if_neg e]
            exact a6 j hj
        refine zw.it (fun c => fin2 _ (by rw [c]; decide)) (fun c => fin2 _ (by rw [decide_eq_false c]; decide))
      refine zw.it (fun c => fin _ ?_) (fun c => fin _ ?_)
      · exact c.symm
      · by_cases hk : lk t = true
        · rw [if_pos hk]
        · rw [if_neg hk] at c
          exact absurd rfl c
    · rw [if_neg h2]
      refine zw.t rfl (zw.s ⟨iv, rfl, fM.rf, ?_⟩)
      rw [if_neg (fun q => h2 q.2)]
      exact ⟨rfl, hT⟩
  · rw [if_neg h]
    refine zw.t rfl (zw.s ⟨iv, rfl, fM.rf, ?_⟩)
    rw [if_neg (fun q => h q.1)]
    exact ⟨rfl, hT⟩
/-- the words of the rooms -/
def mW (b : Nat) (iv : Nat → Nat → Int32) (wd : Nat → Nat → Int32) : Prop := ∀ r w, r < 8 → w < 8 → iv (b + 5) (8 * r + w) = wd r w
def dW (wd : Nat → Nat → Int32) : Prop := ∀ r w, r < 8 → w < 8 → isB (wd r w)
theorem mW.fr {iv' : Nat → Nat → Int32} {wd : Nat → Nat → Int32} {rs ks : List Nat} (h : mW b iv wd) (hf : fM b rs ks iv iv') (h1 : 5 ∉ rs) : mW b iv' wd := fun r w hr hw => by
  rw [hf.arr (by decide) h1]
  exact h r w hr hw
theorem m_word {wd : Nat → Nat → Int32} {x y v : Int32} (hL : mL b K rv) (hW : mW b iv wd) :
    zw (fX8_word N (K, iv, rv, lv) b x y v) (fun q => ∃ iv', q.2 = (K, iv', rv, lv) ∧ fM b [5] [] iv iv' ∧ if inR 8 x ∧ inR 8 y ∧ inR 256 v then q.1 = wd x.toNatClampNeg y.toNatClampNeg ∧ mW b iv' (zu wd x.toNatClampNeg y.toNatClampNeg v) else q.1 = -1 ∧ mW b iv' wd) := by
  unfold fX8_word fX8_word_0 fX8_word_25
  refine zw.e2 m_isRoom ?_
  by_cases h1 : inR 8 x
  · rw [if_pos h1]
    refine zw.f (by decide) ?_
    refine zw.e2 m_isWord ?_
    by_cases h2 : inR 8 y
    · rw [if_pos h2]
      refine zw.f (by decide) ?_
      refine zw.e2 (m_inR (n := 255) (by decide)) ?_
      by_cases h3 : inR 256 v
      · rw [if_pos h3]
        refine zw.f (by decide) ?_
        obtain ⟨r, hr, rfl⟩ := h1.at (by decide)
        obtain ⟨w, hw, rfl⟩ := h2.at (by decide)
        have hc1 : (nI r).toNatClampNeg = r := nI_clamp (by omega)
        have hc2 : (nI w).toNatClampNeg = w := nI_clamp (by omega)
        have hix : (8 : Int32) * nI r + nI w = nI (8 * r + w) := by rw [← nI_add, ← nI_mul]; rfl
        refine zw.e (zgr_at hL.o hL.r_words) ?_
        refine zw.e (zil_v hL.k_words hix (by omega) (by decide) (hW r w hr hw)) ?_
        refine zw.e (zgr_at hL.o hL.r_words) ?_
        refine zw.e (zis_v hL.k_words hix (by omega) (by decide)) ?_
        refine zw.s ⟨_, rfl, fM.rf.put (by simp) _ _, ?_⟩
        rw [if_pos ⟨h1, h2, h3⟩, hc1, hc2]
        refine ⟨rfl, fun r' w' hr' hw' => ?_⟩
        by_cases e : r' = r ∧ w' = w
        · rw [e.1, e.2, zu_s, zu_s]
        · rw [zu_o (by omega), zu_o e]
          exact hW r' w' hr' hw'
      · rw [if_neg h3]
        refine zw.t rfl (zw.s ⟨iv, rfl, fM.rf, ?_⟩)
        rw [if_neg (fun q => h3 q.2.2)]
        exact ⟨rfl, hW⟩
    · rw [if_neg h2]
      refine zw.t rfl (zw.s ⟨iv, rfl, fM.rf, ?_⟩)
      rw [if_neg (fun q => h2 q.2.1)]
      exact ⟨rfl, hW⟩
  · rw [if_neg h1]
    refine zw.t rfl (zw.s ⟨iv, rfl, fM.rf, ?_⟩)
    rw [if_neg (fun q => h1 q.1)]
    exact ⟨rfl, hW⟩
/-- how many of the first n words differ between two rooms -/
def nDif (wd : Nat → Nat → Int32) (p q n : Nat) : Nat := fb_ct (fun w => decide (wd p w ≠ wd q w)) n
def cpW (wd : Nat → Nat → Int32) (p q : Nat) : Nat → Nat → Int32 := fun r w => if r = q then wd p w else wd r w
theorem m_copy {wd : Nat → Nat → Int32} {x y : Int32} (hL : mL b K rv) (hW : mW b iv wd) (hN : 100 < N) :
    zw (fX8_copy N (K, iv, rv, lv) b x y) (fun q => ∃ iv', q.2 = (K, iv', rv, lv) ∧ fM b [5] [] iv iv' ∧ if inR 8 x ∧ inR 8 y then q.1 = nI (nDif wd x.toNatClampNeg y.toNatClampNeg 8) ∧ mW b iv' (cpW wd x.toNatClampNeg y.toNatClampNeg) else q.1 = -1 ∧ mW b iv' wd) := by
  unfold fX8_copy fX8_copy_0 fX8_copy_14
  refine zw.e2 m_isRoom ?_
  by_cases h1 : inR 8 x
  · rw [if_pos h1]
    refine zw.f (by decide) ?_
    refine zw.e2 m_isRoom ?_
    by_cases h2 : inR 8 y
    · rw [if_pos h2]
      refine zw.f (by decide) ?_
      obtain ⟨p, hp, rfl⟩ := h1.at (by decide)
      obtain ⟨q, hq, rfl⟩ := h2.at (by decide)
      have hc1 : (nI p).toNatClampNeg = p := nI_clamp (by omega)
      have hc2 : (nI q).toNatClampNeg = q := nI_clamp (by omega)
      refine zw.imp (P := fun q_1 => ∃ iv', q_1.2 = (K, iv', rv, lv) ∧ fM b [5] [] iv iv' ∧ q_1.1 = nI (nDif wd p q 8) ∧ mW b iv' (cpW wd p q)) ?_ (fun z ⟨iv', a1, a2, a3⟩ => ⟨iv', a1, a2, by rw [if_pos ⟨h1, h2⟩, hc1, hc2]; exact a3⟩)
      unfold lX8_copy_21
      refine zw.loop (fun m y => ∃ k iv1, k + m = 8 ∧ y = ((K, iv1, rv, lv), b, nI p, nI q, nI (nDif wd p q k), nI k) ∧ (∀ r w, r < 8 → w < 8 → iv1 (b + 5) (8 * r + w) = if r = q ∧ w < k then wd p w else wd r w) ∧ fM b [5] [] iv iv1) ?_ N 8 _ (by omega) ⟨0, iv, by omega, rfl, fun r w hr hw => by rw [if_neg (by omega)]; exact hW r w hr hw, fM.rf⟩
      rintro m ⟨S, x0, x1, x2, x3, x4⟩ Kc ⟨k, iv1, hk, hy, g, hf⟩ ih
      cases hy
      dsimp only
      unfold fX8_copy_21
      by_cases hm : m = 0
      · subst hm
        have hk' : k = 8 := by omega
        subst hk'
        refine zw.t (show (8 : Int32) ≤ nI 8 from by decide) (zw.s ⟨iv1, rfl, hf, rfl, fun r w hr hw => ?_⟩)
        rw [g r w hr hw]
        unfold cpW
        by_cases e : r = q
        · rw [if_pos e, if_pos ⟨e, hw⟩]
        · rw [if_neg e, if_neg (fun z => e z.1)]
      · refine zw.f (nI_ge (show k < 8 by omega) (by decide)) ?_
        have hix : ∀ r : Nat, (8 : Int32) * nI r + nI k = nI (8 * r + k) := fun r => by rw [← nI_add, ← nI_mul]; rfl
        have hvp : iv1 (b + 5) (8 * p + k) = wd p k := by rw [g p k hp (by omega), if_neg (by omega)]
        have hvq : iv1 (b + 5) (8 * q + k) = wd q k := by rw [g q k hq (by omega), if_neg (by omega)]
        refine zw.e (zgr_at hL.o hL.r_words) ?_
        refine zw.e (zil_v hL.k_words (hix p) (by omega) (by decide) hvp) ?_
        refine zw.e (zgr_at hL.o hL.r_words) ?_
        refine zw.e (zil_v hL.k_words (hix q) (by omega) (by decide) hvq) ?_
        have fin : ∀ d : Nat, d = (if wd p k ≠ wd q k then 1 else 0) → zw (fX8_copy_61 N Kc (K, iv1, rv, lv) b (nI p) (nI q) (nI k) (nI (nDif wd p q k)) (nI d)) (fun q_1 => ∃ iv', q_1.2 = (K, iv', rv, lv) ∧ fM b [5] [] iv iv' ∧ q_1.1 = nI (nDif wd p q 8) ∧ mW b iv' (cpW wd p q)) := by
          intro d hd
          unfold fX8_copy_61
          refine zw.e (zgr_at hL.o hL.r_words) ?_
          refine zw.e (zgr_at hL.o hL.r_words) ?_
          refine zw.e (zil_v hL.k_words (hix p) (by omega) (by decide) hvp) ?_
          refine zw.e (zis_v hL.k_words (hix q) (by omega) (by decide)) ?_
          refine ih (m - 1) _ (by omega) ⟨k + 1, zu iv1 (b + 5) (8 * q + k) (wd p k), by omega, ?_, fun r w hr hw => ?_, hf.put (r := 5) (by simp) _ _⟩
          · rw [nI_1 k, nI_add]
            have : nDif wd p q (k + 1) = nDif wd p q k + d := by
              unfold nDif
              rw [fb_ct_succ, hd]
              by_cases e : wd p k = wd q k <;> simp [e]
            rw [this]
          · by_cases e : r = q ∧ w = k
            · rw [e.1, e.2, zu_s, if_pos ⟨rfl, by omega⟩]
            · rw [zu_o (by omega), g r w hr hw]
              by_cases e2 : r = q ∧ w < k
              · rw [if_pos e2, if_pos ⟨e2.1, by omega⟩]
              · rw [if_neg e2, if_neg (by omega)]
        refine zw.it (fun c => fin 0 (by simp [c])) (fun c => fin 1 (by simp [c]))
    · rw [if_neg h2]
      refine zw.t rfl (zw.s ⟨iv, rfl, fM.rf, ?_⟩)
      rw [if_neg (fun q => h2 q.2)]
      exact ⟨rfl, hW⟩
  · rw [if_neg h1]
    refine zw.t rfl (zw.s ⟨iv, rfl, fM.rf, ?_⟩)
    rw [if_neg (fun q => h1 q.1)]
    exact ⟨rfl, hW⟩
end M2
