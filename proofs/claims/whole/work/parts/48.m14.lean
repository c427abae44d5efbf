/-! the model: fix, rooms -/
/-- the best among those below k -/
def lsI (D : Nat → Prop) (k : Nat) (x : Int32) : Prop := (x = -1 ∧ ∀ j, j < k → ¬ D j) ∨ ∃ m, m < k ∧ x = nI m ∧ D m ∧ ∀ j, j < k → D j → pcn 32 m < pcn 32 j ∨ (pcn 32 m = pcn 32 j ∧ m ≤ j)
theorem lsI.skip {D : Nat → Prop} {k : Nat} {x : Int32} (h : lsI D k x) (hk : ¬ D k) : lsI D (k + 1) x := by
  rcases h with ⟨e, h⟩ | ⟨m, h1, e, h2, h3⟩
  · refine Or.inl ⟨e, fun j hj q => ?_⟩
    by_cases z : j = k
    · exact hk (z ▸ q)
    · exact h j (by omega) q
  · refine Or.inr ⟨m, by omega, e, h2, fun j hj q => ?_⟩
    by_cases z : j = k
    · exact absurd (z ▸ q) hk
    · exact h3 j (by omega) q
theorem lsI.big {D : Nat → Prop} {k m : Nat} (h : lsI D k (nI m)) (hm : m < 2 ^ 31) (hk2 : k < 2 ^ 31) (hk : pcn 32 m ≤ pcn 32 k) : lsI D (k + 1) (nI m) := by
  rcases h with ⟨e, h⟩ | ⟨m', h1, e, h2, h3⟩
  · exact absurd e (nI_n1 hm)
  · have : m = m' := (nI_eq hm (by omega)).mp e
    subst this
    refine Or.inr ⟨m, by omega, rfl, h2, fun j hj q => ?_⟩
    by_cases z : j = k
    · subst z
      omega
    · exact h3 j (by omega) q
theorem lsI.new {D : Nat → Prop} {k : Nat} {x : Int32} (h : lsI D k x) (hd : D k) (hk : ∀ m, x = nI m → m < k → pcn 32 k < pcn 32 m) : lsI D (k + 1) (nI k) := by
  refine Or.inr ⟨k, by omega, rfl, hd, fun j hj q => ?_⟩
  by_cases z : j = k
  · subst z; omega
  · rcases h with ⟨e, h⟩ | ⟨m, h1, e, h2, h3⟩
    · exact absurd q (h j (by omega))
    · have a1 := hk m e h1
      have a2 := h3 j (by omega) q
      omega
theorem lsI.sg {D : Nat → Prop} {k : Nat} {x : Int32} (h : lsI D k x) (hk : k < 2 ^ 31) : (x = -1 ∧ x < 0) ∨ ∃ m, m < k ∧ x = nI m ∧ ¬ x < 0 := by
  rcases h with ⟨e, h⟩ | ⟨m, h1, e, h2, h3⟩
  · exact Or.inl ⟨e, by rw [e]; decide⟩
  · exact Or.inr ⟨m, h1, e, by rw [e]; exact nI_pos (by omega)⟩
section M14
variable {N b : Nat} {K : Nat → Option (Nat × Nat)} {iv : Nat → Nat → Int32} {rv : Nat → Nat → Option Nat} {lv : Nat → Nat → Int64}
variable {tp : List Int32} {nt : Nat} {tx : Nat → List Int32} {lk : Nat → Bool} {ns : Nat} {tl : Nat → Nat} {pa : Nat → Int32} {pb : Nat → Nat} {ins : Nat → List Nat} {wd : Nat → Nat → Int32}
/-- the words of two rooms, by a set -/
abbrev mix (f g : Nat → Int32) (m : Nat) : Nat → Int32 := fun w => if bt (nI m) w then f w else g w
def spFix (D : Nat → Prop) (e : Int32) (r : Int32) : Prop := (∃ m, r = nI m ∧ isLs D m) ∨ (r = e ∧ ∀ k, k < 256 → ¬ D k)
theorem spFix.one {D : Nat → Prop} {e r1 r2 : Int32} (h1 : spFix D e r1) (h2 : spFix D e r2) : r1 = r2 := by
  rcases h1 with ⟨m, a1, a2⟩ | ⟨a1, a2⟩
  · rcases h2 with ⟨n, b1, b2⟩ | ⟨b1, b2⟩
    · rw [a1, b1, a2.one b2]
    · exact absurd a2.2.1 (b2 m a2.1)
  · rcases h2 with ⟨n, b1, b2⟩ | ⟨b1, b2⟩
    · exact absurd b2.2.1 (a2 n b2.1)
    · rw [a1, b1]
/-- a set by which room q builds the step as room p does -/
abbrev fxD (tx : Nat → List Int32) (lk : Nat → Bool) (tl : Nat → Nat) (pa : Nat → Int32) (pb : Nat → Nat) (ins : Nat → List Nat) (f g : Nat → Int32) (s : Nat) : Nat → Prop := fun m => thg tx lk tl pa pb ins f s = thg tx lk tl pa pb ins (mix f g m) s
theorem m_fix {x y v : Int32} (hL : mL b K rv) (hA : mA b iv tp nt tx lk ns tl pa pb ins wd) (hN : 3000 < N) :
    zw (fX8_fix N (K, iv, rv, lv) b x y v) (fun q => ((inR 8 x ∧ inR 8 y ∧ inR ns v → spFix (fxD tx lk tl pa pb ins (wd x.toNatClampNeg) (wd y.toNatClampNeg) v.toNatClampNeg) (-1) q.1) ∧ (¬ (inR 8 x ∧ inR 8 y ∧ inR ns v) → q.1 = -1)) ∧ ∃ iv', q.2 = (K, iv', rv, lv) ∧ fM b [11, 12, 13, 14, 15] [18] iv iv') := by
  obtain ⟨hT, hP, hW, hdT, hdP, hdW⟩ := id hA
  have hn := hdP.1
  unfold fX8_fix fX8_fix_0 fX8_fix_22
  refine zw.e2 m_isRoom ?_
  by_cases h1 : inR 8 x
  · rw [if_pos h1]
    refine zw.f (by decide) ?_
    refine zw.e2 m_isRoom ?_
    by_cases h2 : inR 8 y
    · rw [if_pos h2]
      refine zw.f (by decide) ?_
      refine zw.e (zrc_at hL.o) ?_
      refine zw.e2 (m_isStep hL hA.2.1 hn) ?_
      by_cases h3 : inR ns v
      · rw [if_pos h3]
        refine zw.f (by decide) ?_
        obtain ⟨p, hp, rfl⟩ := h1.at (by decide)
        obtain ⟨q, hq, rfl⟩ := h2.at (by decide)
        obtain ⟨s, hs, rfl⟩ := h3.at (by omega)
        rw [nI_clamp (show p < 2 ^ 31 by omega), nI_clamp (show q < 2 ^ 31 by omega), nI_clamp (show s < 2 ^ 31 by omega)]
        refine zw.imp (P := fun z => spFix (fxD tx lk tl pa pb ins (wd p) (wd q) s) (-1) z.1 ∧ ∃ iv', z.2 = (K, iv', rv, lv) ∧ fM b [11, 12, 13, 14, 15] [18] iv iv') ?_ (fun z hz => ⟨⟨fun _ => hz.1, fun q => absurd ⟨h1, h2, h3⟩ q⟩, hz.2⟩)
        refine m_tb (hf := 0) hL hA hp hs (by decide) hN (fun iv1 f1 _ _ hS hH => ?_)
        have h9 := hS s (Nat.le_refl _)
        rw [show 24 * 0 + s = s by omega] at h9
        unfold lX8_fix_41
        refine zw.loop (fun m y => ∃ k iv2 xb, k + m = 256 ∧ y = ((K, iv2, rv, lv), b, nI p, nI q, nI s, xb, nI k) ∧ fM b [11, 12, 13, 14, 15] [18] iv iv2 ∧ mS b iv2 s (thg tx lk tl pa pb ins (wd p) s) ∧ lsI (fxD tx lk tl pa pb ins (wd p) (wd q) s) k xb) ?_ N 256 _ (by omega) ⟨0, iv1, -1, by omega, rfl, f1, h9, Or.inl ⟨rfl, fun j hj => by omega⟩⟩
        rintro m ⟨S, x0, x1, x2, x3, x4, x5⟩ Kc ⟨k, iv2, xb, hk, hy, f2, hS2, hI⟩ ih
        cases hy
        dsimp only
        unfold fX8_fix_41 fX8_fix_138
        by_cases hm : m = 0
        · have : k = 256 := by omega
          subst this
          refine zw.t (by decide) (zw.s ⟨?_, iv2, rfl, f2⟩)
          rcases hI with hI | ⟨m, a1, a2, a3, a4⟩
          · exact Or.inr hI
          · exact Or.inl ⟨m, a2, a1, a3, a4⟩
        · refine zw.f (nI_ge (show k < 256 by omega) (by decide)) ?_
          have test : (∀ m, x4 = nI m → m < k → pcn 32 k < pcn 32 m) → zw (fX8_fix_70 N Kc (K, iv2, rv, lv) b (nI p) (nI q) (nI s) x4 (nI k)) (fun z => spFix (fxD tx lk tl pa pb ins (wd p) (wd q) s) (-1) z.1 ∧ ∃ iv', z.2 = (K, iv', rv, lv) ∧ fM b [11, 12, 13, 14, 15] [18] iv iv') := by
            intro hbt
            unfold fX8_fix_70 lX8_fix_73
            refine zw.loop (fun m2 z => ∃ w iv3, w + m2 = 8 ∧ z = ((K, iv3, rv, lv), b, nI p, nI q, nI s, x4, nI k, nI w) ∧ fM b [11] [] iv2 iv3 ∧ ∀ j, j < w → iv3 (b + 11) j = mix (wd p) (wd q) k j) ?_ N 8 _ (by omega) ⟨0, iv2, by omega, rfl, fM.rf, fun j hj => by omega⟩
            rintro m2 ⟨S, y0, y1, y2, y3, y4, y5, y6⟩ Kc2 ⟨w, iv3, hw, hy2, f3, g3⟩ ih2
            cases hy2
            dsimp only
            unfold fX8_fix_73 fX8_fix_108 fX8_fix_138
            by_cases hm2 : m2 = 0
            · have : w = 8 := by omega
              subst this
              refine zw.t (by decide) ?_
              refine zw.e (zrc_at hL.o) ?_
              have f4 : fM b [11, 12, 13, 14, 15] [18] iv iv3 := f2.tr (f3.mo (by simp) (by simp))
              have hbB : ∀ j, j < 8 → isB (mix (wd p) (wd q) k j) := fun j hj => by
                unfold mix
                split
                · exact hdW p j hp hj
                · exact hdW q j hq hj
              refine zw.c (m_buildS (hf := 1) (h := mix (wd p) (wd q) k) hL (hT.fr f4 (by decide) (by decide)) hdT (hP.fr f4 (by decide) (by decide)) hdP hs (by decide) (fun j hj => g3 j hj) hbB hN) ?_
              rintro S ⟨iv5, rfl, f5, hS5⟩
              have hgp := fun L (e : thg tx lk tl pa pb ins (wd p) s = some L) => (thg_good hA (fun w hw => hdW p w hp hw) hs e).1
              have hS6 : mS b iv5 s (thg tx lk tl pa pb ins (wd p) s) := f5.mS (by omega) (hS2.fr f3 (by decide)) hgp
              refine zw.e (zrc_at hL.o) ?_
              refine zw.c2 (m_areAlike hL (by omega) hS6 (hS5 s (Nat.le_refl _)) hgp (fun L e => (thg_good hA hbB hs e).1) (by omega)) ?_
              intro z S e
              cases e
              have f6 : fM b [11, 12, 13, 14, 15] [18] iv iv5 := f4.tr (f5.1.mo (by simp) (by simp))
              by_cases hal : thg tx lk tl pa pb ins (wd p) s = thg tx lk tl pa pb ins (mix (wd p) (wd q) k) s
              · rw [if_pos hal]
                exact zw.f (by decide) (ih (m - 1) _ (by omega) ⟨k + 1, iv5, nI k, by omega, by rw [nI_1 k], f6, hS6, hI.new hal hbt⟩)
              · rw [if_neg hal]
                exact zw.t rfl (ih (m - 1) _ (by omega) ⟨k + 1, iv5, x4, by omega, by rw [nI_1 k], f6, hS6, hI.skip hal⟩)
            · refine zw.f (nI_ge (show w < 8 by omega) (by decide)) ?_
              refine zw.e (zgr_at hL.o hL.r_hand) ?_
              refine zw.e (zgr_at hL.o hL.r_words) ?_
              have step : ∀ r : Nat, r < 8 → wd r w = mix (wd p) (wd q) k w → zw ((zil (K, iv3, rv, lv) (b + 5) (((8 : Int32) * nI r) + nI w)).bind fun v1 => (zis (K, iv3, rv, lv) (b + 11) (nI w) v1).bind fun S2 => Kc2 (S2, b, nI p, nI q, nI s, x4, nI k, (nI w + (1 : Int32)))) (fun z => spFix (fxD tx lk tl pa pb ins (wd p) (wd q) s) (-1) z.1 ∧ ∃ iv', z.2 = (K, iv', rv, lv) ∧ fM b [11, 12, 13, 14, 15] [18] iv iv') := by
                intro r hr he
                refine zw.e (zil_v (j := 8 * r + w) (x := wd r w) hL.k_words (by rw [← nI_add, ← nI_mul]; rfl) (by omega) (by decide) (by rw [f3.arr (by decide) (by decide)]; exact (hW.fr f2 (by decide)) r w hr (by omega))) ?_
                refine zw.e (zis_v hL.k_hand rfl (by omega) (by decide)) ?_
                refine ih2 (m2 - 1) _ (by omega) ⟨w + 1, zu iv3 (b + 11) w (wd r w), by omega, by rw [nI_1 w], f3.put (r := 11) (by simp) _ _, fun j hj => ?_⟩
                by_cases e : j = w
                · rw [e, zu_s]; exact he
                · rw [zu_o (fun z => e z.2)]; exact g3 j (by omega)
              by_cases c : bt (nI k) w = true
              · exact zw.t ((shr_1 (by omega)).mpr c) (step p hp (by simp only [mix, if_pos c]))
              · exact zw.f (fun z => c ((shr_1 (by omega)).mp z)) (step q hq (by simp only [mix, if_neg c]))
          rcases hI.sg (by omega) with ⟨e1, e2⟩ | ⟨mm, e0, e1, e2⟩
          · refine zw.t e2 (test fun m em hmk => ?_)
            rw [e1] at em
            exact absurd em.symm (nI_n1 (by omega))
          · refine zw.f e2 ?_
            refine zw.e2 (m_bits (by omega)) ?_
            refine zw.e2 (m_bits (by omega)) ?_
            have hb1 : bC (nI k) ≤ 32 := fb_ct_le _ _
            have hb2 : bC x4 ≤ 32 := fb_ct_le _ _
            refine zw.it (fun c => test fun m em hmk => ?_) (fun c => ?_)
            · rw [nI_ltI (by omega) (by omega), em, bC_nI, bC_nI] at c
              exact c
            · rw [nI_ltI (by omega) (by omega), e1, bC_nI, bC_nI] at c
              subst e1
              exact ih (m - 1) _ (by omega) ⟨k + 1, iv2, nI mm, by omega, by rw [nI_1 k], f2, hS2, hI.big (by omega) (by omega) (by omega)⟩
      · rw [if_neg h3]
        exact zw.t rfl (zw.s ⟨⟨fun q => absurd q.2.2 h3, fun _ => rfl⟩, iv, rfl, fM.rf⟩)
    · rw [if_neg h2]
      exact zw.t rfl (zw.s ⟨⟨fun q => absurd q.2.1 h2, fun _ => rfl⟩, iv, rfl, fM.rf⟩)
  · rw [if_neg h1]
    exact zw.t rfl (zw.s ⟨⟨fun q => absurd q.1 h1, fun _ => rfl⟩, iv, rfl, fM.rf⟩)
/-- two rooms of a set differ in a word -/
def pr2 (wd : Nat → Nat → Int32) (x : Int32) (w p q : Nat) : Prop := bt x p = true ∧ bt x q = true ∧ wd p w ≠ wd q w
def prE (wd : Nat → Nat → Int32) (x : Int32) (w p q : Nat) : Prop := ∃ p' q', q' < p' ∧ (p' < p ∨ (p' = p ∧ q' < q)) ∧ pr2 wd x w p' q'
def enU (wd : Nat → Nat → Int32) (x r : Int32) : Prop := ∀ w, w < 8 → bt r w = true → ∃ p q, q < p ∧ p < 8 ∧ pr2 wd x w p q
theorem m_areEnough {x r : Int32} (hL : mL b K rv) (hW : mW b iv wd) (hN : 3000 < N) : zw (fX8_areEnough N (K, iv, rv, lv) b x r) (fun q => q.2 = (K, iv, rv, lv) ∧ ((q.1 = 1 ∧ enU wd x r) ∨ (q.1 = 0 ∧ ¬ enU wd x r))) := by
  unfold fX8_areEnough fX8_areEnough_0 lX8_areEnough_2
  refine zw.loop (fun m y => ∃ w, w + m = 8 ∧ y = ((K, iv, rv, lv), b, x, r, nI w) ∧ ∀ j, j < w → bt r j = true → ∃ p q, q < p ∧ p < 8 ∧ pr2 wd x j p q) ?_ N 8 _ (by omega) ⟨0, by omega, rfl, fun j hj => by omega⟩
  rintro m ⟨S, x0, x1, x2, x3⟩ Kc ⟨w, hw, hy, g⟩ ih
  cases hy
  dsimp only
  unfold fX8_areEnough_2 fX8_areEnough_120
  by_cases hm : m = 0
  · have : w = 8 := by omega
    subst this
    exact zw.t (by decide) (zw.s ⟨rfl, Or.inl ⟨rfl, g⟩⟩)
  · refine zw.f (nI_ge (show w < 8 by omega) (by decide)) ?_
    have next : (bt r w = true → ∃ p q, q < p ∧ p < 8 ∧ pr2 wd x w p q) → zw (Kc ((K, iv, rv, lv), b, x, r, (nI w + (1 : Int32)))) (fun q => q.2 = (K, iv, rv, lv) ∧ ((q.1 = 1 ∧ enU wd x r) ∨ (q.1 = 0 ∧ ¬ enU wd x r))) := fun h => ih (m - 1) _ (by omega) ⟨w + 1, by omega, by rw [nI_1 w], fun j hj => by
      by_cases e : j = w
      · rw [e]; exact h
      · exact g j (by omega)⟩
    by_cases c : bt r w = false
    · refine zw.t ((shr_0 (by omega)).mpr c) (next fun q => ?_)
      rw [c] at q; cases q
    · refine zw.f (fun q => c ((shr_0 (by omega)).mp q)) ?_
      have ct := bnf c
      unfold lX8_areEnough_25
      refine zw.loop (fun m2 y => ∃ p z, p + m2 = 8 ∧ y = ((K, iv, rv, lv), b, x, r, nI w, z, nI p) ∧ ((z = 1 ∧ prE wd x w p 0) ∨ (z = 0 ∧ ¬ prE wd x w p 0))) ?_ N 8 _ (by omega) ⟨0, 0, by omega, rfl, Or.inr ⟨rfl, fun ⟨p', q', _, h, _⟩ => by omega⟩⟩
      rintro m2 ⟨S, y0, y1, y2, y3, y4, y5⟩ Kc2 ⟨p, z, hp, hy2, g2⟩ ih2
      cases hy2
      dsimp only
      unfold fX8_areEnough_25 fX8_areEnough_120
      by_cases hm2 : m2 = 0
      · have : p = 8 := by omega
        subst this
        refine zw.t (by decide) ?_
        rcases g2 with ⟨e, p', q', a1, a2, a3⟩ | ⟨e, a1⟩
        · exact zw.f (by rw [e]; decide) (next fun _ => ⟨p', q', a1, by omega, a3⟩)
        · refine zw.t e (zw.s ⟨rfl, Or.inr ⟨rfl, fun q => a1 ?_⟩⟩)
          obtain ⟨p', q', b1, b2, b3⟩ := q w (by omega) ct
          exact ⟨p', q', b1, Or.inl b2, b3⟩
      · refine zw.f (nI_ge (show p < 8 by omega) (by decide)) ?_
        unfold lX8_areEnough_35
        refine zw.loop (fun m3 y => ∃ q z, q + m3 = p ∧ y = ((K, iv, rv, lv), b, x, r, nI w, z, nI p, nI q) ∧ ((z = 1 ∧ prE wd x w p q) ∨ (z = 0 ∧ ¬ prE wd x w p q))) ?_ N p _ (by omega) ⟨0, y4, by omega, rfl, g2⟩
        rintro m3 ⟨S, z0, z1, z2, z3, z4, z5, z6⟩ Kc3 ⟨q, z, hq, hy3, g3⟩ ih3
        cases hy3
        dsimp only
        unfold fX8_areEnough_35 fX8_areEnough_98 fX8_areEnough_94 fX8_areEnough_99
        by_cases hm3 : m3 = 0
        · have : q = p := by omega
          subst this
          have hst : prE wd x w (q + 1) 0 ↔ prE wd x w q q := ⟨fun ⟨p', q', b1, b2, b3⟩ => ⟨p', q', b1, by omega, b3⟩, fun ⟨p', q', b1, b2, b3⟩ => ⟨p', q', b1, by omega, b3⟩⟩
          exact zw.t (Int32.le_refl _) (ih2 (m2 - 1) _ (by omega) ⟨q + 1, z4, by omega, by rw [nI_1 q], by rw [hst]; exact g3⟩)
        · refine zw.f (nI_ge (show q < p by omega) (by omega)) ?_
          have st1 : prE wd x w p (q + 1) → zw (Kc3 ((K, iv, rv, lv), b, x, r, nI w, (1 : Int32), nI p, (nI q + (1 : Int32)))) (fun q => q.2 = (K, iv, rv, lv) ∧ ((q.1 = 1 ∧ enU wd x r) ∨ (q.1 = 0 ∧ ¬ enU wd x r))) := fun h => ih3 (m3 - 1) _ (by omega) ⟨q + 1, 1, by omega, by rw [nI_1 q], Or.inl ⟨rfl, h⟩⟩
          have st0 : ¬ prE wd x w p q → ¬ pr2 wd x w p q → zw (Kc3 ((K, iv, rv, lv), b, x, r, nI w, (0 : Int32), nI p, (nI q + (1 : Int32)))) (fun q => q.2 = (K, iv, rv, lv) ∧ ((q.1 = 1 ∧ enU wd x r) ∨ (q.1 = 0 ∧ ¬ enU wd x r))) := fun h hn => ih3 (m3 - 1) _ (by omega) ⟨q + 1, 0, by omega, by rw [nI_1 q], Or.inr ⟨rfl, fun ⟨p', q', b1, b2, b3⟩ => by
            by_cases e : p' = p ∧ q' = q
            · rw [e.1, e.2] at b3; exact hn b3
            · exact h ⟨p', q', b1, by omega, b3⟩⟩⟩
          rcases g3 with ⟨e, p', q', a1, a2, a3⟩ | ⟨e, a1⟩
          · exact zw.f (by rw [e]; decide) (st1 ⟨p', q', a1, by omega, a3⟩)
          · refine zw.t e ?_
            by_cases c1 : bt x p = true
            · refine zw.t ((shr_1 (by omega)).mpr c1) ?_
              by_cases c2 : bt x q = true
              · refine zw.t ((shr_1 (by omega)).mpr c2) ?_
                refine zw.e (zgr_at hL.o hL.r_words) ?_
                refine zw.e (zil_v (j := 8 * p + w) hL.k_words (by rw [← nI_add, ← nI_mul]; rfl) (by omega) (by decide) (hW p w (by omega) (by omega))) ?_
                refine zw.e (zgr_at hL.o hL.r_words) ?_
                refine zw.e (zil_v (j := 8 * q + w) hL.k_words (by rw [← nI_add, ← nI_mul]; rfl) (by omega) (by decide) (hW q w (by omega) (by omega))) ?_
                refine zw.it (fun c3 => st0 a1 fun h => h.2.2 c3) (fun c3 => st1 ⟨p, q, by omega, by omega, c1, c2, c3⟩)
              · exact zw.f (fun z => c2 ((shr_1 (by omega)).mp z)) (st0 a1 fun h => c2 h.2.1)
            · exact zw.f (fun z => c1 ((shr_1 (by omega)).mp z)) (st0 a1 fun h => c1 h.1)
/-- a set of rooms that will do -/
abbrev rmD (wd : Nat → Nat → Int32) (x r : Int32) : Nat → Prop := fun m => 1 ≤ m ∧ nI m &&& (x ^^^ (-1)) = 0 ∧ enU wd (nI m) r
theorem m_rooms {x y : Int32} (hL : mL b K rv) (hA : mA b iv tp nt tx lk ns tl pa pb ins wd) (hN : 3000 < N) :
    zw (fX8_rooms N (K, iv, rv, lv) b x y) (fun q => ((inR ns x ∧ (¬ y < 1 ∧ ¬ 255 < y) → spFix (rmD wd y (ofS (rdS (thg tx lk tl pa pb ins (wd 0)) tl pb (usd ins x.toNatClampNeg) (x.toNatClampNeg + 1)))) (-2) q.1) ∧ (¬ (inR ns x ∧ (¬ y < 1 ∧ ¬ 255 < y)) → q.1 = -1)) ∧ ∃ iv', q.2 = (K, iv', rv, lv) ∧ fM b [11, 12, 13, 14, 15] [18] iv iv') := by
  obtain ⟨hT, hP, hW, hdT, hdP, hdW⟩ := id hA
  have hn := hdP.1
  unfold fX8_rooms fX8_rooms_0 fX8_rooms_19
  refine zw.e (zrc_at hL.o) ?_
  refine zw.e2 (m_isStep hL hA.2.1 hn) ?_
  by_cases h1 : inR ns x
  · rw [if_pos h1]
    refine zw.f (by decide) ?_
    refine zw.e2 m_in ?_
    by_cases h2 : ¬ y < 1 ∧ ¬ 255 < y
    · rw [if_pos h2]
      refine zw.f (by decide) ?_
      obtain ⟨s, hs, rfl⟩ := h1.at (by omega)
      rw [nI_clamp (show s < 2 ^ 31 by omega)]
      refine zw.e (zrc_at hL.o) ?_
      refine zw.c2 (m_wordsOf (r := 0) true hL hA (by decide) hs hN) ?_
      rintro z S ⟨hz, iv1, rfl, f1⟩
      have hz : z = ofS (rdS (thg tx lk tl pa pb ins (wd 0)) tl pb (usd ins s) (s + 1)) := hz
      rw [← hz]
      refine zw.imp (P := fun q => spFix (rmD wd y z) (-2) q.1 ∧ q.2 = (K, iv1, rv, lv)) ?_ (fun q hq => ⟨⟨fun _ => hq.1, fun q => absurd ⟨h1, h2⟩ q⟩, iv1, hq.2, f1⟩)
      unfold lX8_rooms_35
      refine zw.loop (fun m t => ∃ k xb, k + m = 256 ∧ 1 ≤ k ∧ t = ((K, iv1, rv, lv), b, y, z, xb, nI k) ∧ lsI (rmD wd y z) k xb) ?_ N 255 _ (by omega) ⟨1, -1, by omega, by omega, rfl, Or.inl ⟨rfl, fun j hj q => by have := q.1; omega⟩⟩
      rintro m ⟨S, x0, x2, x3, x4, x5⟩ Kc ⟨k, xb, hk, hk1, hy, hI⟩ ih
      cases hy
      dsimp only
      unfold fX8_rooms_35 fX8_rooms_73 fX8_rooms_87 fX8_rooms_105
      by_cases hm : m = 0
      · have : k = 256 := by omega
        subst this
        refine zw.t (by decide) ?_
        rcases hI with ⟨e, hI⟩ | ⟨m, a1, a2, a3, a4⟩
        · exact zw.f (by rw [e]; decide) (zw.s ⟨Or.inr ⟨rfl, hI⟩, rfl⟩)
        · exact zw.t (by rw [a2]; exact Int32.not_lt.mp (nI_pos (by omega))) (zw.s ⟨Or.inl ⟨m, a2, a1, a3, a4⟩, rfl⟩)
      · refine zw.f (nI_ge (show k < 256 by omega) (by decide)) ?_
        refine zw.it (fun hsub => ?_) (fun hsub => ih (m - 1) _ (by omega) ⟨k + 1, x4, by omega, by omega, by rw [nI_1 k], hI.skip fun q => hsub q.2.1⟩)
        have test : (∀ m, x4 = nI m → m < k → pcn 32 k < pcn 32 m) → zw ((zrc (K, iv1, rv, lv) b 8).bind fun _ => zb2 (fX8_areEnough N (K, iv1, rv, lv) b (nI k) z) fun v3 S2 => if v3 = (0 : Int32) then Kc (S2, b, y, z, x4, (nI k + (1 : Int32))) else Kc (S2, b, y, z, nI k, (nI k + (1 : Int32)))) (fun q => spFix (rmD wd y z) (-2) q.1 ∧ q.2 = (K, iv1, rv, lv)) := by
          intro hbt
          refine zw.e (zrc_at hL.o) ?_
          refine zw.c2 (m_areEnough hL (hW.fr f1 (by decide)) hN) ?_
          rintro v S ⟨rfl, hv⟩
          rcases hv with ⟨rfl, he⟩ | ⟨rfl, he⟩
          · exact zw.f (by decide) (ih (m - 1) _ (by omega) ⟨k + 1, nI k, by omega, by omega, by rw [nI_1 k], hI.new ⟨hk1, hsub, he⟩ hbt⟩)
          · exact zw.t rfl (ih (m - 1) _ (by omega) ⟨k + 1, x4, by omega, by omega, by rw [nI_1 k], hI.skip fun q => he q.2.2⟩)
        rcases hI.sg (by omega) with ⟨e1, e2⟩ | ⟨mm, e0, e1, e2⟩
        · refine zw.t e2 (test fun m em hmk => ?_)
          rw [e1] at em
          exact absurd em.symm (nI_n1 (by omega))
        · refine zw.f e2 ?_
          refine zw.e2 (m_bits (by omega)) ?_
          refine zw.e2 (m_bits (by omega)) ?_
          have hb1 : bC (nI k) ≤ 32 := fb_ct_le _ _
          have hb2 : bC x4 ≤ 32 := fb_ct_le _ _
          refine zw.it (fun c => test fun m em hmk => ?_) (fun c => ?_)
          · rw [nI_ltI (by omega) (by omega), em, bC_nI, bC_nI] at c
            exact c
          · rw [nI_ltI (by omega) (by omega), e1, bC_nI, bC_nI] at c
            subst e1
            exact ih (m - 1) _ (by omega) ⟨k + 1, nI mm, by omega, by omega, by rw [nI_1 k], hI.big (by omega) (by omega) (by omega)⟩
    · rw [if_neg h2]
      exact zw.t rfl (zw.s ⟨⟨fun q => absurd q.2 h2, fun _ => rfl⟩, iv, rfl, fM.rf⟩)
  · rw [if_neg h1]
    exact zw.t rfl (zw.s ⟨⟨fun q => absurd q.1 h1, fun _ => rfl⟩, iv, rfl, fM.rf⟩)
end M14
