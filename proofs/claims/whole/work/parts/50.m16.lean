/-! the model: changes -/
section M16
variable {N b : Nat} {K : Nat → Option (Nat × Nat)} {iv : Nat → Nat → Int32} {rv : Nat → Nat → Option Nat} {lv : Nat → Nat → Int64}
variable {tp : List Int32} {nt : Nat} {tx : Nat → List Int32} {lk : Nat → Bool} {ns : Nat} {tl : Nat → Nat} {pa : Nat → Int32} {pb : Nat → Nat} {ins : Nat → List Nat} {wd : Nat → Nat → Int32} {ch : List (Int32 × Int32 × Int32)}
theorem m_note {x y v : Int32} (hL : mL b K rv) (hC : mC b iv ch) (hl : ch.length < 400) : zw (fX8_note N (K, iv, rv, lv) b x y v) (fun q => ∃ iv', q = (K, iv', rv, lv) ∧ fM b [20, 21, 22] [24] iv iv' ∧ mC b iv' (ch ++ [(x, y, v)])) := by
  obtain ⟨h1, h2⟩ := hC
  unfold fX8_note fX8_note_0
  refine zw.e (zgr_at hL.o hL.r_changeKind) ?_
  refine zw.e (zgi_v hL.o h1) ?_
  refine zw.e (zis_v hL.k_changeKind rfl hl (by decide)) ?_
  refine zw.e (zgr_at hL.o hL.r_changePlace) ?_
  refine zw.e (zgi_v (x := nI ch.length) hL.o (by rw [zu_o (by omega)]; exact h1)) ?_
  refine zw.e (zis_v hL.k_changePlace rfl hl (by decide)) ?_
  refine zw.e (zgr_at hL.o hL.r_changeByte) ?_
  refine zw.e (zgi_v (x := nI ch.length) hL.o (by rw [zu_o (by omega), zu_o (by omega)]; exact h1)) ?_
  refine zw.e (zis_v hL.k_changeByte rfl hl (by decide)) ?_
  refine zw.e (zgi_v (x := nI ch.length) hL.o (by rw [zu_o (by omega), zu_o (by omega), zu_o (by omega)]; exact h1)) ?_
  refine zw.e (zpi_at hL.o) ?_
  refine zw.s ⟨_, rfl, (((fM.rf.put (r := 20) (by simp) _ _).put (r := 21) (by simp) _ _).put (r := 22) (by simp) _ _).puf (by simp) _, ?_, fun i hi => ?_⟩
  · rw [zu_s, nI_1, len_snoc]
  · rw [len_snoc] at hi
    rw [zu_o (by omega), zu_o (by omega), zu_o (by omega)]
    rw [zu_o (f := zu (zu (zu iv _ _ _) _ _ _) _ _ _) (by omega), zu_o (f := zu (zu iv _ _ _) _ _ _) (b := b + 21) (by omega)]
    rw [zu_o (f := zu (zu (zu iv _ _ _) _ _ _) _ _ _) (by omega)]
    by_cases e : i = ch.length
    · subst e
      rw [zu_s, zu_s, zu_s]
      simp
    · have hi2 : i < ch.length := by omega
      have hg : (ch ++ [(x, y, v)]).getD i (0, 0, 0) = ch.getD i (0, 0, 0) := by
        simp only [List.getD_eq_getElem?_getD, List.getElem?_append_left hi2]
      rw [zu_o (by omega), zu_o (by omega), zu_o (by omega), hg]
      rw [zu_o (by omega), zu_o (by omega)]
      rw [zu_o (by omega)]
      exact h2 i hi2
def spChanges (o1 o2 : Option (List Int32)) : Option (List (Int32 × Int32 × Int32)) := match o1, o2 with
  | some X, some Y => some (chg X Y)
  | _, _ => none
/-- what changes answers, and what it leaves -/
def chR (o : Option (List (Int32 × Int32 × Int32))) (ch : List (Int32 × Int32 × Int32)) (r : Int32) (ch' : List (Int32 × Int32 × Int32)) : Prop := (o = none → r = -2 ∧ ch' = ch) ∧ ∀ c, o = some c → r = nI c.length ∧ ch' = c
theorem chR.one {o : Option (List (Int32 × Int32 × Int32))} {ch ch1 ch2 : List (Int32 × Int32 × Int32)} {r1 r2 : Int32} (h1 : chR o ch r1 ch1) (h2 : chR o ch r2 ch2) : r1 = r2 ∧ ch1 = ch2 := by
  cases o with
  | none => rw [(h1.1 rfl).1, (h2.1 rfl).1, (h1.1 rfl).2, (h2.1 rfl).2]; exact ⟨rfl, rfl⟩
  | some c => rw [(h1.2 c rfl).1, (h2.2 c rfl).1, (h1.2 c rfl).2, (h2.2 c rfl).2]; exact ⟨rfl, rfl⟩
theorem m_follow {s : Nat} {X Y : List Int32} (hL : mL b K rv) (hs : s < 24) (hS1 : mS b iv s (some X)) (hS2 : mS b iv (24 + s) (some Y)) (hX : X.length ≤ 200) (hY : Y.length ≤ 200) (hF : ∀ i j, i ≤ X.length → j ≤ Y.length → iv (b + 19) (201 * i + j) = nI (edt (lkF X Y) (X.length - i) (Y.length - j))) (h0 : mC b iv []) (hN : 3000 < N) :
    zw (lX8_changes_85 N (K, iv, rv, lv) b (nI s) (nI X.length) (nI Y.length) 0 0) (fun q => q.1 = nI (chg X Y).length ∧ ∃ iv', q.2 = (K, iv', rv, lv) ∧ fM b [20, 21, 22] [24] iv iv' ∧ mC b iv' (chg X Y)) := by
  have hcl := chg_len hX hY
  unfold lX8_changes_85
  refine zw.loop (fun t y => ∃ i j a c iv1 ch, a + c = t ∧ i + a = X.length ∧ j + c = Y.length ∧ y = ((K, iv1, rv, lv), b, nI s, nI X.length, nI Y.length, nI i, nI j) ∧ fM b [20, 21, 22] [24] iv iv1 ∧ mC b iv1 ch ∧ ch ++ pth (lkF X Y) X.length Y.length Y a c = chg X Y) ?_ N (X.length + Y.length) _ (by omega) ⟨0, 0, X.length, Y.length, iv, [], rfl, by omega, by omega, rfl, fM.rf, h0, rfl⟩
  rintro t ⟨S, x0, x3, x4, x5, x6, x7⟩ Kc ⟨i, j, a, c, iv1, ch, ht, hi, hj, hy, f1, hC, hch⟩ ih
  cases hy
  dsimp only
  have hF1 : ∀ i j, i ≤ X.length → j ≤ Y.length → iv1 (b + 19) (201 * i + j) = nI (edt (lkF X Y) (X.length - i) (Y.length - j)) := fun i j h1 h2 => by rw [f1.arr (by decide) (by decide)]; exact hF i j h1 h2
  have hS1' := hS1.fr f1 (by decide)
  have hS2' := hS2.fr f1 (by decide)
  have hix : ∀ p q : Nat, (201 : Int32) * nI p + nI q = nI (201 * p + q) := fun p q => by rw [← nI_add, ← nI_mul]; rfl
  have hlen : ch.length ≤ 200 := by rw [← hch] at hcl; simp at hcl; omega
  have emx := fun p q => edt_max (lkF X Y) p q
  unfold fX8_changes_85
  have left : zw (fX8_changes_99 N Kc (K, iv1, rv, lv) b (nI s) (nI X.length) (nI Y.length) (nI i) (nI j)) (fun q => q.1 = nI (chg X Y).length ∧ ∃ iv', q.2 = (K, iv', rv, lv) ∧ fM b [20, 21, 22] [24] iv iv' ∧ mC b iv' (chg X Y)) ∨ (a = 0 ∧ c = 0) := by
    by_cases hz : a = 0 ∧ c = 0
    · exact Or.inr hz
    · refine Or.inl ?_
      unfold fX8_changes_99
      refine zw.e (zgr_at hL.o hL.r_far) ?_
      refine zw.e (zil_v hL.k_far (hix i j) (by omega) (by decide) (hF1 i j (by omega) (by omega))) ?_
      rw [show X.length - i = a by omega, show Y.length - j = c by omega]
      -- a note, then on
      have go : ∀ (k v : Int32) (i' j' a' c' : Nat) (xi xj : Int32), xi = nI i' → xj = nI j' → a' + c' < a + c → i' + a' = X.length → j' + c' = Y.length → pth (lkF X Y) X.length Y.length Y a c = (k, nI i, v) :: pth (lkF X Y) X.length Y.length Y a' c' → zw ((fX8_note N (K, iv1, rv, lv) b k (nI i) v).bind fun S => Kc (S, b, nI s, nI X.length, nI Y.length, xi, xj)) (fun q => q.1 = nI (chg X Y).length ∧ ∃ iv', q.2 = (K, iv', rv, lv) ∧ fM b [20, 21, 22] [24] iv iv' ∧ mC b iv' (chg X Y)) := by
        intro k v i' j' a' c' xi xj e1 e2 h1 h2 h3 h4
        refine zw.c (m_note hL hC (by omega)) ?_
        rintro S ⟨iv2, rfl, f2, hC2⟩
        refine ih (a' + c') _ (by omega) ⟨i', j', a', c', iv2, _, rfl, h2, h3, by rw [e1, e2], f1.tr f2, hC2, ?_⟩
        rw [← hch, h4, List.append_assoc]
        rfl
      have hin : ∀ c', c = c' + 1 → pth (lkF X Y) X.length Y.length Y a c = (2, nI i, Y.getD j 0) :: pth (lkF X Y) X.length Y.length Y a c' → zw (fX8_changes_287 N Kc (K, iv1, rv, lv) b (nI s) (nI X.length) (nI Y.length) (nI i) (nI j)) (fun q => q.1 = nI (chg X Y).length ∧ ∃ iv', q.2 = (K, iv', rv, lv) ∧ fM b [20, 21, 22] [24] iv iv' ∧ mC b iv' (chg X Y)) := by
        intro c' hc' hp
        unfold fX8_changes_287 fX8_changes_304
        refine zw.e (zrc_at hL.o) ?_
        refine zw.e2 (m_second hL hs hS2' hY (show j < Y.length by omega)) ?_
        refine zw.e (zrc_at hL.o) ?_
        exact go 2 _ i (j + 1) a c' _ _ rfl (nI_1 j) (by omega) hi (by omega) hp
      cases a with
      | zero =>
        cases c with
        | zero => exact absurd ⟨rfl, rfl⟩ hz
        | succ c' =>
          refine zw.t (nI_le (by omega) (by omega)) ?_
          unfold fX8_changes_133 fX8_changes_134 fX8_changes_190 fX8_changes_243
          refine zw.t rfl (zw.t rfl (zw.t (nI_le (by omega) (by omega)) ?_))
          refine hin c' rfl ?_
          rw [pth_0s, show X.length - 0 = i by omega, show Y.length - (c' + 1) = j by omega]
      | succ a' =>
        refine zw.f (nI_ge (show i < X.length by omega) (by omega)) ?_
        have hout : ∀ c2, c2 = c → pth (lkF X Y) X.length Y.length Y (a' + 1) c = (1, nI i, 0) :: pth (lkF X Y) X.length Y.length Y a' c → zw ((zrc (K, iv1, rv, lv) b 8).bind fun _ => (fX8_note N (K, iv1, rv, lv) b 1 (nI i) 0).bind fun S9 => fX8_changes_304 N Kc S9 b (nI s) (nI X.length) (nI Y.length) (nI i + (1 : Int32)) (nI j)) (fun q => q.1 = nI (chg X Y).length ∧ ∃ iv', q.2 = (K, iv', rv, lv) ∧ fM b [20, 21, 22] [24] iv iv' ∧ mC b iv' (chg X Y)) := by
          intro c2 _ hp
          unfold fX8_changes_304
          refine zw.e (zrc_at hL.o) ?_
          exact go 1 0 (i + 1) j a' c _ _ (nI_1 i) rfl (by omega) (by omega) hj hp
        cases c with
        | zero =>
          refine zw.t (nI_le (by omega) (by omega)) ?_
          unfold fX8_changes_133 fX8_changes_134 fX8_changes_190 fX8_changes_243
          refine zw.t rfl (zw.t rfl (zw.f (nI_ge (show i < X.length by omega) (by omega)) ?_))
          refine zw.e (zgr_at hL.o hL.r_far) ?_
          refine zw.e (zil_v (j := 201 * (i + 1) + j) hL.k_far (by rw [nI_1 i, hix]) (by omega) (by decide) (hF1 (i + 1) j (by omega) (by omega))) ?_
          rw [show X.length - (i + 1) = a' by omega, show Y.length - j = 0 by omega]
          refine zw.t (by rw [nI_1, edt_a0, edt_a0]) (hout 0 rfl ?_)
          rw [pth_s0, show X.length - (a' + 1) = i by omega]
        | succ c' =>
          refine zw.f (nI_ge (show j < Y.length by omega) (by omega)) ?_
          unfold fX8_changes_134
          refine zw.f (by decide) ?_
          refine zw.e (zrc_at hL.o) ?_
          refine zw.e2 (m_first hL hs hS1' hX (show i < X.length by omega)) ?_
          refine zw.e (zrc_at hL.o) ?_
          refine zw.e2 (m_second hL hs hS2' hY (show j < Y.length by omega)) ?_
          have hlk : lkF X Y a' c' = decide (X.getD i 0 = Y.getD j 0) := by
            unfold lkF
            rw [show X.length - 1 - a' = i by omega, show Y.length - 1 - c' = j by omega]
          have hpp := pth_ss (f := lkF X Y) (n := X.length) (m := Y.length) (Y := Y) a' c'
          rw [show X.length - (a' + 1) = i by omega, show Y.length - (c' + 1) = j by omega] at hpp
          have e1 := emx a' c'
          have e2 := emx (a' + 1) (c' + 1)
          have e3 := emx a' (c' + 1)
          refine zw.it (fun hl => ?_) (fun hl => ?_)
          · have hl2 : lkF X Y a' c' = true := by rw [hlk, decide_eq_true hl]
            refine zw.e (zgr_at hL.o hL.r_far) ?_
            refine zw.e (zil_v (j := 201 * (i + 1) + (j + 1)) hL.k_far (by rw [nI_1 i, hix, nI_1]; rfl) (by omega) (by decide) (hF1 (i + 1) (j + 1) (by omega) (by omega))) ?_
            rw [show X.length - (i + 1) = a' by omega, show Y.length - (j + 1) = c' by omega]
            refine zw.t (by rw [edt_like hl2]) ?_
            unfold fX8_changes_304
            refine ih (a' + c') _ (by omega) ⟨i + 1, j + 1, a', c', iv1, ch, rfl, by omega, by omega, by rw [nI_1 i, nI_1 j], f1, hC, ?_⟩
            rw [← hch, hpp, if_pos hl2]
          · have hl2 : lkF X Y a' c' = false := by rw [hlk, decide_eq_false hl]
            rw [if_neg (by rw [hl2]; decide)] at hpp
            unfold fX8_changes_190
            refine zw.f (by decide) ?_
            refine zw.e (zgr_at hL.o hL.r_far) ?_
            refine zw.e (zil_v (j := 201 * (i + 1) + (j + 1)) hL.k_far (by rw [nI_1 i, hix, nI_1]; rfl) (by omega) (by decide) (hF1 (i + 1) (j + 1) (by omega) (by omega))) ?_
            rw [show X.length - (i + 1) = a' by omega, show Y.length - (j + 1) = c' by omega, nI_1]
            by_cases c1 : edt (lkF X Y) a' c' + 1 = edt (lkF X Y) (a' + 1) (c' + 1)
            · refine zw.t (by rw [c1]) ?_
              rw [if_pos c1] at hpp
              refine zw.e (zrc_at hL.o) ?_
              refine zw.e2 (m_second hL hs hS2' hY (show j < Y.length by omega)) ?_
              refine zw.e (zrc_at hL.o) ?_
              unfold fX8_changes_304
              exact go 0 _ (i + 1) (j + 1) a' c' _ _ (nI_1 i) (nI_1 j) (by omega) (by omega) (by omega) hpp
            · refine zw.f (fun q => c1 ((nI_eq (by omega) (by omega)).mp q)) ?_
              rw [if_neg c1] at hpp
              unfold fX8_changes_243
              refine zw.f (nI_ge (show i < X.length by omega) (by omega)) ?_
              refine zw.e (zgr_at hL.o hL.r_far) ?_
              refine zw.e (zil_v (j := 201 * (i + 1) + j) hL.k_far (by rw [nI_1 i, hix]) (by omega) (by decide) (hF1 (i + 1) j (by omega) (by omega))) ?_
              rw [show X.length - (i + 1) = a' by omega, show Y.length - j = c' + 1 by omega, nI_1]
              by_cases c2 : edt (lkF X Y) a' (c' + 1) + 1 = edt (lkF X Y) (a' + 1) (c' + 1)
              · refine zw.t (by rw [c2]) ?_
                rw [if_pos c2] at hpp
                exact hout (c' + 1) rfl hpp
              · refine zw.f (fun q => c2 ((nI_eq (by omega) (by omega)).mp q)) ?_
                rw [if_neg c2] at hpp
                exact hin c' rfl hpp
  by_cases hz : a = 0 ∧ c = 0
  · refine zw.f (nI_nlt (by omega) (by omega)) (zw.t (nI_le (by omega) (by omega)) ?_)
    have hch2 : ch = chg X Y := by
      rw [← hch, hz.1, hz.2, pth_00, List.append_nil]
    refine zw.e (zgi_v hL.o hC.1) (zw.s ⟨by rw [hch2], iv1, rfl, f1, hch2 ▸ hC⟩)
  · have hleft := left.resolve_right hz
    refine zw.it (fun _ => hleft) (fun c1 => zw.f (fun c2 => ?_) hleft)
    rw [nI_ltI (by omega) (by omega)] at c1
    rw [nI_leI (by omega) (by omega)] at c2
    omega
theorem m_changes {x y v : Int32} (hL : mL b K rv) (hA : mA b iv tp nt tx lk ns tl pa pb ins wd) (hC : mC b iv ch) (hN : 3000 < N) :
    zw (fX8_changes N (K, iv, rv, lv) b x y v) (fun q => ∃ iv' ch', q.2 = (K, iv', rv, lv) ∧ fM b [11, 12, 13, 14, 15, 19, 20, 21, 22] [18, 24] iv iv' ∧ mC b iv' ch' ∧ (inR 8 x ∧ inR 8 y ∧ inR ns v → chR (spChanges (thg tx lk tl pa pb ins (wd x.toNatClampNeg) v.toNatClampNeg) (thg tx lk tl pa pb ins (wd y.toNatClampNeg) v.toNatClampNeg)) ch q.1 ch') ∧ (¬ (inR 8 x ∧ inR 8 y ∧ inR ns v) → q.1 = -1 ∧ ch' = ch)) := by
  have hn := hA.2.2.2.2.1.1
  unfold fX8_changes fX8_changes_0 fX8_changes_22 fX8_changes_62
  refine zw.e2 m_isRoom ?_
  by_cases h1 : inR 8 x
  · rw [if_pos h1]
    refine zw.f (by decide) ?_
    refine zw.e2 m_isRoom ?_
    by_cases h2 : inR 8 y
    · rw [if_pos h2]
      refine zw.f (by decide) ?_
      refine zw.e (zrc_at hL.o) ?_
      refine zw.e2 (m_isStep hL hA.2.1 hn) ?_
      by_cases h3 : inR ns v
      · rw [if_pos h3]
        refine zw.f (by decide) ?_
        obtain ⟨p, hp, rfl⟩ := h1.at (by decide)
        obtain ⟨q, hq, rfl⟩ := h2.at (by decide)
        obtain ⟨s, hs, rfl⟩ := h3.at (by omega)
        rw [nI_clamp (show p < 2 ^ 31 by omega), nI_clamp (show q < 2 ^ 31 by omega), nI_clamp (show s < 2 ^ 31 by omega)]
        refine zw.e (zrc_at hL.o) ?_
        refine zw.c (m_both hL hA hp hq hs hN) ?_
        rintro S ⟨iv1, rfl, f1, g1, g2⟩
        have f1' : fM b [11, 12, 13, 14, 15, 19, 20, 21, 22] [18, 24] iv iv1 := f1.mo (by simp) (by simp)
        have a1 := g1 s (Nat.le_refl _)
        have a2 := g2 s (Nat.le_refl _)
        have gd1 := fun L (e : thg tx lk tl pa pb ins (wd p) s = some L) => (thg_good hA (fun w hw => hA.2.2.2.2.2 p w hp hw) hs e).1
        have gd2 := fun L (e : thg tx lk tl pa pb ins (wd q) s = some L) => (thg_good hA (fun w hw => hA.2.2.2.2.2 q w hq hw) hs e).1
        generalize thg tx lk tl pa pb ins (wd p) s = o1 at *
        generalize thg tx lk tl pa pb ins (wd q) s = o2 at *
        refine zw.e (zgr_at hL.o hL.r_size) ?_
        refine zw.e (zil_v hL.k_size rfl (by omega) (by decide) a1.sz) ?_
        refine zw.e (zgr_at hL.o hL.r_size) ?_
        refine zw.e (zil_v hL.k_size (show (24 : Int32) + nI s = nI (24 + s) from nI_add 24 s) (by omega) (by decide) a2.sz) ?_
        have hno : spChanges o1 o2 = none → zw (some ((-2 : Int32), ((K, iv1, rv, lv) : zS))) (fun q_1 => ∃ iv' ch', q_1.2 = (K, iv', rv, lv) ∧ fM b [11, 12, 13, 14, 15, 19, 20, 21, 22] [18, 24] iv iv' ∧ mC b iv' ch' ∧ (inR 8 (nI p) ∧ inR 8 (nI q) ∧ inR ns (nI s) → chR (spChanges o1 o2) ch q_1.1 ch') ∧ (¬ (inR 8 (nI p) ∧ inR 8 (nI q) ∧ inR ns (nI s)) → q_1.1 = -1 ∧ ch' = ch)) := fun h => zw.s ⟨iv1, ch, rfl, f1', hC.fr f1 (by decide) (by decide), fun _ => ⟨fun _ => ⟨rfl, rfl⟩, fun c e => by rw [h] at e; cases e⟩, fun q => absurd ⟨h1, h2, h3⟩ q⟩
        cases o1 with
        | none => exact zw.t rfl (hno rfl)
        | some X =>
          refine zw.f (nI_n1 (by have := gd1 X rfl; omega)) ?_
          cases o2 with
          | none => exact zw.t rfl (hno rfl)
          | some Y =>
            refine zw.f (nI_n1 (by have := gd2 Y rfl; omega)) ?_
            refine zw.e (zrc_at hL.o) ?_
            refine zw.c (m_findFar hL (by omega) a1 a2 (gd1 X rfl) (gd2 Y rfl) hN) ?_
            rintro S ⟨iv2, rfl, f2, hF⟩
            refine zw.e (zpi_at hL.o) ?_
            have f3 : fM b [] [24] iv2 (zu iv2 b 24 0) := fM.rf.puf (by simp) _
            have f23 := (f2.mo (rs' := [19]) (ks' := [24]) (by simp) (by simp)).tr (f3.mo (by simp) (by simp))
            refine zw.imp (m_follow hL (by omega) (a1.fr f23 (by decide)) (a2.fr f23 (by decide)) (gd1 X rfl) (gd2 Y rfl) (fun i j h1 h2 => by rw [zu_o (by omega)]; exact hF i j h1 h2) ⟨zu_s, fun i hi => absurd hi (Nat.not_lt_zero i)⟩ hN) ?_
            rintro z ⟨e1, iv4, e2, f4, hC4⟩
            exact ⟨iv4, chg X Y, e2, (f1'.tr (f23.mo (by simp) (by simp))).tr (f4.mo (by simp) (by simp)), hC4, fun _ => ⟨fun q => (by cases q), fun c e => (by cases e; exact ⟨e1, rfl⟩)⟩, fun q => absurd ⟨h1, h2, h3⟩ q⟩
      · rw [if_neg h3]
        exact zw.t rfl (zw.s ⟨iv, ch, rfl, fM.rf, hC, fun q => absurd q.2.2 h3, fun _ => ⟨rfl, rfl⟩⟩)
    · rw [if_neg h2]
      exact zw.t rfl (zw.s ⟨iv, ch, rfl, fM.rf, hC, fun q => absurd q.2.1 h2, fun _ => ⟨rfl, rfl⟩⟩)
  · rw [if_neg h1]
    exact zw.t rfl (zw.s ⟨iv, ch, rfl, fM.rf, hC, fun q => absurd q.1 h1, fun _ => ⟨rfl, rfl⟩⟩)
end M16
