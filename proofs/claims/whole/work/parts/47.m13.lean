/-! the model: cause, breaking, stable, breaks, fix -/
theorem bnf {c : Bool} (h : ¬ c = false) : c = true := by
  cases c
  · exact absurd rfl h
  · rfl
/-- the first place with a property -/
def isF (p : Nat → Prop) (k : Nat) : Prop := p k ∧ ∀ j, j < k → ¬ p j
theorem isF.one {p : Nat → Prop} {i j : Nat} (h1 : isF p i) (h2 : isF p j) : i = j := fb_first_one h1.1 h1.2 h2.1 h2.2
/-- the least by size, then by number, of the sets below 256 -/
def isLs (D : Nat → Prop) (m : Nat) : Prop := m < 256 ∧ D m ∧ ∀ k, k < 256 → D k → pcn 32 m < pcn 32 k ∨ (pcn 32 m = pcn 32 k ∧ m ≤ k)
theorem isLs.one {D : Nat → Prop} {i j : Nat} (h1 : isLs D i) (h2 : isLs D j) : i = j := by
  have a1 := h1.2.2 j h2.1 h2.2.1
  have a2 := h2.2.2 i h1.1 h1.2.1
  omega
section M13
variable {N b : Nat} {K : Nat → Option (Nat × Nat)} {iv : Nat → Nat → Int32} {rv : Nat → Nat → Option Nat} {lv : Nat → Nat → Int64}
variable {tp : List Int32} {nt : Nat} {tx : Nat → List Int32} {lk : Nat → Bool} {ns : Nat} {tl : Nat → Nat} {pa : Nat → Int32} {pb : Nat → Nat} {ins : Nat → List Nat} {wd : Nat → Nat → Int32}
/-- what cause answers -/
def spCause (f g : Nat → Option (List Int32)) (U : Nat → Bool) (s : Nat) (r : Int32) : Prop := (f s = g s → r = -2) ∧ (f s ≠ g s → ∃ k, k ≤ s ∧ r = nI k ∧ isF (fun k => U k = true ∧ f k ≠ g k) k)
theorem spCause.one {f g : Nat → Option (List Int32)} {U : Nat → Bool} {s : Nat} {r1 r2 : Int32} (h1 : spCause f g U s r1) (h2 : spCause f g U s r2) : r1 = r2 := by
  by_cases e : f s = g s
  · rw [h1.1 e, h2.1 e]
  · obtain ⟨k1, -, e1, g1⟩ := h1.2 e
    obtain ⟨k2, -, e2, g2⟩ := h2.2 e
    rw [e1, e2, g1.one g2]
theorem m_cause {x y v : Int32} (hL : mL b K rv) (hA : mA b iv tp nt tx lk ns tl pa pb ins wd) (hN : 3000 < N) :
    zw (fX8_cause N (K, iv, rv, lv) b x y v) (fun q => ((inR 8 x ∧ inR 8 y ∧ inR ns v → spCause (thg tx lk tl pa pb ins (wd x.toNatClampNeg)) (thg tx lk tl pa pb ins (wd y.toNatClampNeg)) (usd ins v.toNatClampNeg) v.toNatClampNeg q.1) ∧ (¬ (inR 8 x ∧ inR 8 y ∧ inR ns v) → q.1 = -1)) ∧ ∃ iv', q.2 = (K, iv', rv, lv) ∧ fM b [11, 12, 13, 14, 15] [18] iv iv') := by
  obtain ⟨hT, hP, hW, hdT, hdP, hdW⟩ := id hA
  have hn := hdP.1
  have hnt := hdT.2.1
  have hok := hdP.ok hnt
  unfold fX8_cause fX8_cause_0 fX8_cause_22
  refine zw.e2 m_isRoom ?_
  by_cases h1 : inR 8 x
  · rw [if_pos h1]
    refine zw.f (by decide) ?_
    refine zw.e2 m_isRoom ?_
    by_cases h2 : inR 8 y
    · rw [if_pos h2]
      refine zw.f (by decide) ?_
      refine zw.e (zrc_at hL.o) ?_
      refine zw.e2 (m_isStep hL hA.2.1 hn) ?_
      by_cases h3 : inR ns v
      · rw [if_pos h3]
        refine zw.f (by decide) ?_
        obtain ⟨p, hp, rfl⟩ := h1.at (by decide)
        obtain ⟨q, hq, rfl⟩ := h2.at (by decide)
        obtain ⟨s, hs, rfl⟩ := h3.at (by omega)
        rw [nI_clamp (show p < 2 ^ 31 by omega), nI_clamp (show q < 2 ^ 31 by omega), nI_clamp (show s < 2 ^ 31 by omega)]
        refine zw.e (zrc_at hL.o) ?_
        refine zw.c (m_both hL hA hp hq hs hN) ?_
        rintro S ⟨iv1, rfl, f1, g1, g2⟩
        have hP1 := hP.fr f1 (by decide) (by decide)
        generalize hf : thg tx lk tl pa pb ins (wd p) = f at *
        generalize hg : thg tx lk tl pa pb ins (wd q) = g at *
        have gd1 : ∀ k, k ≤ s → ∀ L, f k = some L → L.length ≤ 200 := fun k hk L e => by rw [← hf] at e; exact (thg_good hA (fun w hw => hdW p w hp hw) (show k < ns by omega) e).1
        have gd2 : ∀ k, k ≤ s → ∀ L, g k = some L → L.length ≤ 200 := fun k hk L e => by rw [← hg] at e; exact (thg_good hA (fun w hw => hdW q w hq hw) (show k < ns by omega) e).1
        have alk : ∀ k, k ≤ s → zw (fX8_areAlike N (K, iv1, rv, lv) b (nI k)) (fun q => q = (if f k = g k then 1 else 0, (K, iv1, rv, lv))) := fun k hk => m_areAlike hL (by omega) (g1 k hk) (g2 k hk) (gd1 k hk) (gd2 k hk) (by omega)
        refine zw.e (zrc_at hL.o) ?_
        refine zw.c2 (alk s (Nat.le_refl _)) ?_
        intro r S e
        cases e
        by_cases hal : f s = g s
        · rw [if_pos hal]
          exact zw.f (by decide) (zw.s ⟨⟨fun _ => ⟨fun _ => rfl, fun q => absurd hal q⟩, fun q => absurd ⟨h1, h2, h3⟩ q⟩, iv1, rfl, f1⟩)
        · rw [if_neg hal]
          refine zw.t rfl ?_
          refine zw.e (zrc_at hL.o) ?_
          refine zw.c2 (m_usedBy hL hP1 hdP hnt hs (by omega)) ?_
          rintro u S ⟨rfl, hu⟩
          have fin : ∀ k, k ≤ s → isF (fun k => usd ins s k = true ∧ f k ≠ g k) k → zw (some (nI k, ((K, iv1, rv, lv) : zS))) (fun q_1 => ((inR 8 (nI p) ∧ inR 8 (nI q) ∧ inR ns (nI s) → spCause f g (usd ins s) s q_1.1) ∧ (¬ (inR 8 (nI p) ∧ inR 8 (nI q) ∧ inR ns (nI s)) → q_1.1 = -1)) ∧ ∃ iv', q_1.2 = (K, iv', rv, lv) ∧ fM b [11, 12, 13, 14, 15] [18] iv iv') := fun k hk hF => zw.s ⟨⟨fun _ => ⟨fun q => absurd q hal, fun _ => ⟨k, hk, rfl, hF⟩⟩, fun q => absurd ⟨h1, h2, h3⟩ q⟩, iv1, rfl, f1⟩
          unfold lX8_cause_52
          refine zw.loop (fun m y => ∃ k, k + m = s + 1 ∧ y = ((K, iv1, rv, lv), b, nI s, u, nI k) ∧ ∀ j, j < k → ¬ (usd ins s j = true ∧ f j ≠ g j)) ?_ N (s + 1) _ (by omega) ⟨0, by omega, rfl, fun j hj => by omega⟩
          rintro m ⟨S, x0, x3, x4, x5⟩ Kc ⟨k, hk, hy, hno⟩ ih
          cases hy
          dsimp only
          unfold fX8_cause_52 fX8_cause_163
          by_cases hm : m = 0
          · exact absurd ⟨usd_self hok hs, hal⟩ (hno s (by omega))
          · refine zw.f (nI_nlt (show k ≤ s by omega) (by omega)) ?_
            have huk := hu k (by omega)
            have next : ¬ (usd ins s k = true ∧ f k ≠ g k) → zw (Kc ((K, iv1, rv, lv), b, nI s, u, (nI k + (1 : Int32)))) (fun q_1 => ((inR 8 (nI p) ∧ inR 8 (nI q) ∧ inR ns (nI s) → spCause f g (usd ins s) s q_1.1) ∧ (¬ (inR 8 (nI p) ∧ inR 8 (nI q) ∧ inR ns (nI s)) → q_1.1 = -1)) ∧ ∃ iv', q_1.2 = (K, iv', rv, lv) ∧ fM b [11, 12, 13, 14, 15] [18] iv iv') := fun h => ih (m - 1) _ (by omega) ⟨k + 1, by omega, by rw [nI_1 k], fun j hj => by
              by_cases e : j = k
              · rw [e]; exact h
              · exact hno j (by omega)⟩
            by_cases c : bt u k = false
            · refine zw.t ((shr_0 (by omega)).mpr c) (next fun q => ?_)
              rw [← huk, c] at q
              cases q.1
            · have ct : usd ins s k = true := by rw [← huk]; exact bnf c
              refine zw.f (fun q => c ((shr_0 (by omega)).mp q)) ?_
              refine zw.e (zrc_at hL.o) ?_
              refine zw.c2 (alk k (by omega)) ?_
              intro r S e
              cases e
              by_cases hk2 : f k = g k
              · rw [if_pos hk2]
                exact zw.f (by decide) (next fun q => q.2 hk2)
              · rw [if_neg hk2]
                refine zw.t rfl ?_
                have hl4 := (hdP.2 k (by omega)).2.2.2.1
                unfold lX8_cause_86
                refine zw.loop (fun m2 z => ∃ j, j + m2 = (ins k).length ∧ z = ((K, iv1, rv, lv), b, nI s, u, nI k, 1, nI j)) ?_ N (ins k).length _ (by omega) ⟨0, by omega, rfl⟩
                rintro m2 ⟨S, y0, y3, y4, y5, y6, y7⟩ Kc2 ⟨j, hj, hy2⟩ ih2
                cases hy2
                dsimp only
                unfold fX8_cause_86 fX8_cause_146 fX8_cause_142 fX8_cause_147
                refine zw.e (zgr_at hL.o hL.r_inputs) ?_
                refine zw.e (zil_v hL.k_inputs rfl (by omega) (by decide) (hP1.2.2.2.2.1 k (by omega))) ?_
                by_cases hm2 : m2 = 0
                · refine zw.t (nI_le (by omega) (by omega)) (zw.f (by decide) (fin k (by omega) ⟨⟨ct, hk2⟩, hno⟩))
                · refine zw.f (nI_ge (show j < (ins k).length by omega) (by omega)) (zw.f (by decide) ?_)
                  have hix : (4 : Int32) * nI k + nI j = nI (4 * k + j) := by rw [← nI_add, ← nI_mul]; rfl
                  have hval := hP1.2.2.2.2.2 k (by omega) j (by omega)
                  have hmem : (ins k).getD j 0 ∈ ins k := getD_mem (by omega)
                  refine zw.e (zgr_at hL.o hL.r_input) ?_
                  refine zw.e (zil_v hL.k_input hix (by omega) (by decide) hval) ?_
                  rcases (hdP.2 k (by omega)).2.2.2.2 _ hmem with hlt | ⟨hge, hlt⟩
                  · exact zw.t (nI_lt (show (ins k).getD j 0 < 100 by omega) (by decide)) (ih2 (m2 - 1) _ (by omega) ⟨j + 1, by omega, by rw [nI_1 j]⟩)
                  · refine zw.f (nI_nlt hge (by omega)) ?_
                    refine zw.e (zgr_at hL.o hL.r_input) ?_
                    refine zw.e (zil_v hL.k_input hix (by omega) (by decide) hval) ?_
                    refine zw.e (zrc_at hL.o) ?_
                    rw [show (100 : Int32) = nI 100 from rfl, nI_sub hge]
                    refine zw.c2 (alk ((ins k).getD j 0 - 100) (by omega)) ?_
                    intro r S e
                    cases e
                    have hus : usd ins s ((ins k).getD j 0 - 100) = true := (usd_back hok s hs _).mpr (Or.inr ⟨k, by omega, ct, by rw [show 100 + ((ins k).getD j 0 - 100) = (ins k).getD j 0 by omega]; exact hmem⟩)
                    have hsame : f ((ins k).getD j 0 - 100) = g ((ins k).getD j 0 - 100) := Classical.byContradiction fun q => hno _ (by omega) ⟨hus, q⟩
                    rw [if_pos hsame]
                    exact zw.f (by decide) (ih2 (m2 - 1) _ (by omega) ⟨j + 1, by omega, by rw [nI_1 j]⟩)
      · rw [if_neg h3]
        exact zw.t rfl (zw.s ⟨⟨fun q => absurd q.2.2 h3, fun _ => rfl⟩, iv, rfl, fM.rf⟩)
    · rw [if_neg h2]
      exact zw.t rfl (zw.s ⟨⟨fun q => absurd q.2.1 h2, fun _ => rfl⟩, iv, rfl, fM.rf⟩)
  · rw [if_neg h1]
    exact zw.t rfl (zw.s ⟨⟨fun q => absurd q.1 h1, fun _ => rfl⟩, iv, rfl, fM.rf⟩)
/-- the things of one room with one word turned -/
abbrev trn (h : Nat → Int32) (w : Nat) (v : Int32) : Nat → Int32 := fun j => if j = w then v else h j
/-- the least value of a word that breaks a step -/
def spBrk (tx : Nat → List Int32) (lk : Nat → Bool) (tl : Nat → Nat) (pa : Nat → Int32) (pb : Nat → Nat) (ins : Nat → List Nat) (h : Nat → Int32) (s w n : Nat) (r : Int32) : Prop :=
  (∃ v, v ≤ n ∧ r = nI v ∧ isF (fun v => thg tx lk tl pa pb ins (trn h w (nI v)) s ≠ thg tx lk tl pa pb ins h s) v) ∨ (r = -2 ∧ ∀ v, v ≤ n → thg tx lk tl pa pb ins (trn h w (nI v)) s = thg tx lk tl pa pb ins h s)
theorem spBrk.one {h : Nat → Int32} {s w n : Nat} {r1 r2 : Int32} (h1 : spBrk tx lk tl pa pb ins h s w n r1) (h2 : spBrk tx lk tl pa pb ins h s w n r2) : r1 = r2 := by
  rcases h1 with ⟨v, a1, a2, a3⟩ | ⟨a1, a2⟩
  · rcases h2 with ⟨u, b1, b2, b3⟩ | ⟨b1, b2⟩
    · rw [a2, b2, a3.one b3]
    · exact absurd (b2 v a1) a3.1
  · rcases h2 with ⟨u, b1, b2, b3⟩ | ⟨b1, b2⟩
    · exact absurd (a2 u b1) b3.1
    · rw [a1, b1]
theorem m_breaking {r s w n : Nat} (hL : mL b K rv) (hA : mA b iv tp nt tx lk ns tl pa pb ins wd) (hr : r < 8) (hs : s < ns) (hw : w < 8) (hn2 : n ≤ 255) (hN : 3000 < N) :
    zw (fX8_breaking N (K, iv, rv, lv) b (nI r) (nI s) (nI w) (nI n)) (fun q => spBrk tx lk tl pa pb ins (wd r) s w n q.1 ∧ ∃ iv', q.2 = (K, iv', rv, lv) ∧ fM b [11, 12, 13, 14, 15] [18] iv iv') := by
  obtain ⟨hT, hP, hW, hdT, hdP, hdW⟩ := id hA
  have hn := hdP.1
  unfold fX8_breaking fX8_breaking_0
  refine m_tb (hf := 0) hL hA hr hs (by decide) hN (fun iv1 f1 _ _ hS hH => ?_)
  have h9 := hS s (Nat.le_refl _)
  rw [show 24 * 0 + s = s by omega] at h9
  unfold lX8_breaking_14
  refine zw.loop (fun m y => ∃ v iv2 h2, v + m = n + 1 ∧ y = ((K, iv2, rv, lv), b, nI s, nI w, nI n, nI v) ∧ fM b [11, 12, 13, 14, 15] [18] iv iv2 ∧ mS b iv2 s (thg tx lk tl pa pb ins (wd r) s) ∧ mHd b iv2 h2 ∧ (∀ j, j ≠ w → h2 j = wd r j) ∧ ∀ u, u < v → thg tx lk tl pa pb ins (trn (wd r) w (nI u)) s = thg tx lk tl pa pb ins (wd r) s) ?_ N (n + 1) _ (by omega) ⟨0, iv1, wd r, by omega, rfl, f1, h9, hH, fun _ _ => rfl, fun u hu => by omega⟩
  rintro m ⟨S, x0, x2, x3, x4, x5⟩ Kc ⟨v, iv2, h2, hv, hy, f2, hS2, hH2, hh2, hno⟩ ih
  cases hy
  dsimp only
  unfold fX8_breaking_14
  by_cases hm : m = 0
  · exact zw.t (nI_lt (show n < v by omega) (by omega)) (zw.s ⟨Or.inr ⟨rfl, fun u hu => hno u (by omega)⟩, iv2, rfl, f2⟩)
  · refine zw.f (nI_nlt (show v ≤ n by omega) (by omega)) ?_
    refine zw.e (zgr_at hL.o hL.r_hand) ?_
    refine zw.e (zis_v hL.k_hand rfl hw (by decide)) ?_
    have f3 := f2.put (r := 11) (by simp) w (nI v)
    have hH3 : mHd b (zu iv2 (b + 11) w (nI v)) (trn (wd r) w (nI v)) := fun j hj => by
      unfold trn
      by_cases e : j = w
      · rw [e, zu_s, if_pos rfl]
      · rw [zu_o (fun q => e q.2), if_neg e, hH2 j hj, hh2 j e]
    have hS3 : mS b (zu iv2 (b + 11) w (nI v)) s (thg tx lk tl pa pb ins (wd r) s) := hS2.fr (fM.rf.put (r := 11) (rs := [11]) (ks := []) (by simp) w (nI v)) (by decide)
    refine zw.e (zrc_at hL.o) ?_
    have hbt : ∀ j, j < 8 → isB (trn (wd r) w (nI v) j) := fun j hj => by
      unfold trn
      split
      · exact ⟨v, by omega, rfl⟩
      · exact hdW r j hr hj
    refine zw.c (m_buildS (hf := 1) hL (hT.fr f3 (by decide) (by decide)) hdT (hP.fr f3 (by decide) (by decide)) hdP hs (by decide) hH3 hbt hN) ?_
    rintro S ⟨iv4, rfl, f4, hS4⟩
    have hS5 : mS b iv4 s (thg tx lk tl pa pb ins (wd r) s) := f4.mS (by omega) hS3 (fun L e => (thg_good hA (fun w hw => hdW r w hr hw) hs e).1)
    refine zw.e (zrc_at hL.o) ?_
    refine zw.c2 (m_areAlike hL (by omega) hS5 (hS4 s (Nat.le_refl _)) (fun L e => (thg_good hA (fun w hw => hdW r w hr hw) hs e).1) (fun L e => (thg_good hA hbt hs e).1) (by omega)) ?_
    intro z S e
    cases e
    have f5 : fM b [11, 12, 13, 14, 15] [18] iv iv4 := f3.tr (f4.1.mo (by simp) (by simp))
    by_cases hal : thg tx lk tl pa pb ins (wd r) s = thg tx lk tl pa pb ins (trn (wd r) w (nI v)) s
    · rw [if_pos hal]
      refine zw.f (by decide) (ih (m - 1) _ (by omega) ⟨v + 1, iv4, trn (wd r) w (nI v), by omega, by rw [nI_1 v], f5, hS5, hH3.fr f4.1 (by decide), fun j hj => if_neg hj, fun u hu => ?_⟩)
      by_cases e : u = v
      · rw [e]; exact hal.symm
      · exact hno u (by omega)
    · rw [if_neg hal]
      exact zw.t rfl (zw.s ⟨Or.inl ⟨v, by omega, rfl, fun q => hal q.symm, fun j hj q => q (hno j hj)⟩, iv4, rfl, f5⟩)
theorem m_stable {x y v t : Int32} (hL : mL b K rv) (hA : mA b iv tp nt tx lk ns tl pa pb ins wd) (hN : 3000 < N) :
    zw (fX8_stable N (K, iv, rv, lv) b x y v t) (fun q => ((inR 8 x ∧ inR ns y ∧ inR 8 v ∧ inR 256 t → ∃ r, spBrk tx lk tl pa pb ins (wd x.toNatClampNeg) y.toNatClampNeg v.toNatClampNeg t.toNatClampNeg r ∧ q.1 = if r = -2 then 1 else 0) ∧ (¬ (inR 8 x ∧ inR ns y ∧ inR 8 v ∧ inR 256 t) → q.1 = -1)) ∧ ∃ iv', q.2 = (K, iv', rv, lv) ∧ fM b [11, 12, 13, 14, 15] [18] iv iv') := by
  have hn := hA.2.2.2.2.1.1
  unfold fX8_stable fX8_stable_0 fX8_stable_34 fX8_stable_57
  refine zw.e2 m_isRoom ?_
  by_cases h1 : inR 8 x
  · rw [if_pos h1]
    refine zw.f (by decide) ?_
    refine zw.e (zrc_at hL.o) ?_
    refine zw.e2 (m_isStep hL hA.2.1 hn) ?_
    by_cases h2 : inR ns y
    · rw [if_pos h2]
      refine zw.f (by decide) ?_
      refine zw.e2 m_isWord ?_
      by_cases h3 : inR 8 v
      · rw [if_pos h3]
        refine zw.f (by decide) ?_
        refine zw.e2 (m_inR (n := 255) (by decide)) ?_
        by_cases h4 : inR 256 t
        · rw [if_pos h4]
          refine zw.f (by decide) ?_
          obtain ⟨r, hr, rfl⟩ := h1.at (by decide)
          obtain ⟨s, hs, rfl⟩ := h2.at (by omega)
          obtain ⟨w, hw, rfl⟩ := h3.at (by decide)
          obtain ⟨n, hn2, rfl⟩ := h4.at (by decide)
          rw [nI_clamp (show r < 2 ^ 31 by omega), nI_clamp (show s < 2 ^ 31 by omega), nI_clamp (show w < 2 ^ 31 by omega), nI_clamp (show n < 2 ^ 31 by omega)]
          refine zw.e (zrc_at hL.o) ?_
          refine zw.c2 (m_breaking hL hA hr hs hw (by omega) hN) ?_
          rintro z S ⟨g1, iv', rfl, f⟩
          refine zw.it (fun c => zw.s ⟨⟨fun _ => ⟨z, g1, by rw [if_pos c]⟩, fun q => absurd ⟨h1, h2, h3, h4⟩ q⟩, iv', rfl, f⟩) (fun c => zw.s ⟨⟨fun _ => ⟨z, g1, by rw [if_neg c]⟩, fun q => absurd ⟨h1, h2, h3, h4⟩ q⟩, iv', rfl, f⟩)
        · rw [if_neg h4]
          exact zw.t rfl (zw.s ⟨⟨fun q => absurd q.2.2.2 h4, fun _ => rfl⟩, iv, rfl, fM.rf⟩)
      · rw [if_neg h3]
        exact zw.t rfl (zw.s ⟨⟨fun q => absurd q.2.2.1 h3, fun _ => rfl⟩, iv, rfl, fM.rf⟩)
    · rw [if_neg h2]
      exact zw.t rfl (zw.s ⟨⟨fun q => absurd q.2.1 h2, fun _ => rfl⟩, iv, rfl, fM.rf⟩)
  · rw [if_neg h1]
    exact zw.t rfl (zw.s ⟨⟨fun q => absurd q.1 h1, fun _ => rfl⟩, iv, rfl, fM.rf⟩)
theorem m_breaks {x y v : Int32} (hL : mL b K rv) (hA : mA b iv tp nt tx lk ns tl pa pb ins wd) (hN : 3000 < N) :
    zw (fX8_breaks N (K, iv, rv, lv) b x y v) (fun q => ((inR 8 x ∧ inR ns y ∧ inR 8 v → spBrk tx lk tl pa pb ins (wd x.toNatClampNeg) y.toNatClampNeg v.toNatClampNeg 255 q.1) ∧ (¬ (inR 8 x ∧ inR ns y ∧ inR 8 v) → q.1 = -1)) ∧ ∃ iv', q.2 = (K, iv', rv, lv) ∧ fM b [11, 12, 13, 14, 15] [18] iv iv') := by
  have hn := hA.2.2.2.2.1.1
  unfold fX8_breaks fX8_breaks_0 fX8_breaks_35 fX8_breaks_36
  refine zw.e2 m_isRoom ?_
  by_cases h1 : inR 8 x
  · rw [if_pos h1]
    refine zw.f (by decide) ?_
    refine zw.e (zrc_at hL.o) ?_
    refine zw.e2 (m_isStep hL hA.2.1 hn) ?_
    by_cases h2 : inR ns y
    · rw [if_pos h2]
      refine zw.f (by decide) ?_
      refine zw.e2 m_isWord ?_
      by_cases h3 : inR 8 v
      · rw [if_pos h3]
        refine zw.f (by decide) ?_
        obtain ⟨r, hr, rfl⟩ := h1.at (by decide)
        obtain ⟨s, hs, rfl⟩ := h2.at (by omega)
        obtain ⟨w, hw, rfl⟩ := h3.at (by decide)
        rw [nI_clamp (show r < 2 ^ 31 by omega), nI_clamp (show s < 2 ^ 31 by omega), nI_clamp (show w < 2 ^ 31 by omega)]
        refine zw.e (zrc_at hL.o) ?_
        refine zw.c2 (m_breaking (n := 255) hL hA hr hs hw (by omega) hN) ?_
        rintro z S ⟨g1, iv', rfl, f⟩
        exact zw.s ⟨⟨fun _ => g1, fun q => absurd ⟨h1, h2, h3⟩ q⟩, iv', rfl, f⟩
      · rw [if_neg h3]
        exact zw.t rfl (zw.s ⟨⟨fun q => absurd q.2.2 h3, fun _ => rfl⟩, iv, rfl, fM.rf⟩)
    · rw [if_neg h2]
      exact zw.t rfl (zw.s ⟨⟨fun q => absurd q.2.1 h2, fun _ => rfl⟩, iv, rfl, fM.rf⟩)
  · rw [if_neg h1]
    exact zw.t rfl (zw.s ⟨⟨fun q => absurd q.1 h1, fun _ => rfl⟩, iv, rfl, fM.rf⟩)
end M13
