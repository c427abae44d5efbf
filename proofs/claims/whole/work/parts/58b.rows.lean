/-! a row's own methods: the real ones do what the virtual ones do -/
section REL2
variable {rows : List Nat} {lm u : Nat}
theorem zgeI_x {α : Type} {z zT : Nat} {F : Option (α × zS × Nat)} {r : α} {T : zS} (h : F = some (r, T, zT)) (hz : z ≤ zT) : zgeI z F = some (r, T, zT) := by
  unfold zgeI
  rw [h]
  exact if_pos hz
theorem bd_x {α β : Type} {o : Option α} {F : α → Option β} {v : α} {y : Option β} (h : o = some v) (k : F v = y) : o.bind F = y := by
  rw [h]
  exact k
theorem zw.e3 {α β γ δ : Type} {o : Option (α × β × γ)} {F : α → β → γ → Option δ} {P : δ → Prop} {x : α} {y : β} {v : γ} (h : o = some (x, y, v)) (k : zw (F x y v) P) : zw (zb3 o F) P := by
  rw [h]
  exact k
theorem zgi_s {S : zS} {a c n k : Nat} {x : Int32} (hk : S.1 a = some (c, n)) (hv : S.2.1 a k = x) : zgi S a c k = some x := by
  unfold zgi
  rw [if_pos (by rw [hk]; rfl), hv]
theorem zgr_s {S : zS} {a c n k b : Nat} (hk : S.1 a = some (c, n)) (hv : S.2.2.1 a k = some b) : zgr S a c k = some b := by
  unfold zgr
  rw [if_pos (by rw [hk]; rfl), hv]
theorem zpi_s {S : zS} {a c n k : Nat} {x : Int32} (hk : S.1 a = some (c, n)) : zpi S a c k x = some (S.1, zu S.2.1 a k x, S.2.2.1, S.2.2.2) := by
  unfold zpi
  rw [if_pos (by rw [hk]; rfl)]
theorem zpr_s {S : zS} {a c n k v : Nat} (hk : S.1 a = some (c, n)) : zpr S a c k v = some (S.1, S.2.1, zu S.2.2.1 a k (some v), S.2.2.2) := by
  unfold zpr
  rw [if_pos (by rw [hk]; rfl)]
theorem zln_s {S : zS} {a t n : Nat} (hk : S.1 a = some (t, n)) : zln S a t = some (nI n) := by
  unfold zln
  rw [hk]
  exact if_pos rfl
theorem zrc_s {S : zS} {a c n : Nat} (hk : S.1 a = some (c, n)) : zrc S a c = some () := by
  unfold zrc
  rw [if_pos (by rw [hk]; rfl)]
theorem zok_s {S : zS} {a t n i : Nat} (hk : S.1 a = some (t, n)) (hi : i < n) (hn : n < 2 ^ 31) : zok S a t (nI i) = true := by
  simp [zok, hk, nI_pos (show i < 2 ^ 31 by omega), nI_clamp (show i < 2 ^ 31 by omega), hi]
theorem zis_s {S : zS} {a n i : Nat} {x : Int32} (hk : S.1 a = some (9, n)) (hi : i < n) (hn : n < 2 ^ 31) : zis S a (nI i) x = some (S.1, zu S.2.1 a i x, S.2.2.1, S.2.2.2) := by
  unfold zis
  rw [if_pos (zok_s hk hi hn), nI_clamp (show i < 2 ^ 31 by omega)]
theorem zcp_s {S : zS} {a c n m s d k : Nat} (ha : S.1 a = some (9, n)) (hc : S.1 c = some (9, m)) (h1 : s + k ≤ n) (h2 : d + k ≤ m) (hn : n < 2 ^ 31) (hm : m < 2 ^ 31) : zcp S a (nI s) c (nI d) (nI k) = some (S.1, zro S.2.1 c (va_cpy (S.2.1 a) (S.2.1 c) s d k), S.2.2.1, S.2.2.2) := by
  unfold zcp
  rw [ha, hc]
  dsimp only
  rw [nI_clamp (show s < 2 ^ 31 by omega), nI_clamp (show d < 2 ^ 31 by omega), nI_clamp (show k < 2 ^ 31 by omega)]
  rw [if_pos ⟨rfl, rfl, nI_pos (by omega), nI_pos (by omega), nI_pos (by omega), h1, h2⟩]
theorem zlg_s {n : Nat} (h : n ≤ 65536) : zlg (nI n) = some n := by
  unfold zlg
  rw [nI_clamp (show n < 2 ^ 31 by omega), if_pos ⟨nI_pos (by omega), h⟩]
theorem sX5_ms {N z a k n s b : Nat} {V S : zS} (hR : zR rows lm u z V S) (ha : a ∈ rows) (hro : zRo lm z V S a n s b) (hk : k ≤ 200) :
    (¬ s + k ≤ n → rX5_makeSpaceFor N S z a (nI k) = some (0, S, z)) ∧ (s + k ≤ n → ∃ S' z' b', rX5_makeSpaceFor N S z a (nI k) = some (1, S', z') ∧ z ≤ z' ∧ zR rows lm u z' V S' ∧ zRo lm z' V S' a n s b' ∧ (0 < k → lm ≤ b')) := by
  obtain ⟨r1, r2, r3, r4, r5, r6, r7, r8, r9, r10, r11⟩ := id hro
  unfold rX5_makeSpaceFor rX5_makeSpaceFor_0
  constructor
  · intro h
    refine zgeI_x ?_ (Nat.le_refl _)
    refine bd_x (zgi_s r4 r9) ?_
    refine bd_x (zgi_s r4 r7) ?_
    rw [nI_add, if_neg (nI_ge (show n < s + k by omega) (by omega))]
    rfl
  · intro h
    have e41 : ∀ (S' : zS) (z' : Nat), rX5_makeSpaceFor_41 N S' z' = some (1, S', z') := fun S' z' => by
      unfold rX5_makeSpaceFor_41
      exact zgeI_x rfl (Nat.le_refl _)
    by_cases hk0 : k = 0
    · subst hk0
      refine ⟨S, z, b, ?_, Nat.le_refl _, hR, hro, fun q => by omega⟩
      refine zgeI_x ?_ (Nat.le_refl _)
      refine bd_x (zgi_s r4 r9) ?_
      refine bd_x (zgi_s r4 r7) ?_
      rw [nI_add, if_pos (nI_le h (by omega)), if_pos (show nI 0 ≤ (0 : Int32) by decide)]
      exact e41 S z
    · have hkp : ¬ nI k ≤ (0 : Int32) := nI_ge (show 0 < k by omega) (by omega)
      rcases r11 with ⟨e1, e2, e3⟩ | ⟨e1, e2, e3, e4⟩
      · subst e1
        obtain ⟨m1, m2⟩ := hR.mk ha hro
        have la := hR.2.2.2.2.1 a ha
        have lz := hR.2.2.2.2.2.1
        refine ⟨_, z + 1, z, ?_, by omega, m1, m2, fun _ => lz⟩
        refine zgeI_x ?_ (by omega)
        refine bd_x (zgi_s r4 r9) ?_
        refine bd_x (zgi_s r4 r7) ?_
        rw [nI_add, if_pos (nI_le h (by omega)), if_neg hkp]
        refine bd_x (zgr_s r4 r10) ?_
        refine bd_x (zln_s e2) ?_
        refine bd_x (zgi_s r4 r7) ?_
        rw [if_neg (nI_ge (show 0 < n by omega) (by omega))]
        refine bd_x (zgi_s r4 r7) ?_
        refine bd_x (zlg_s (by omega)) ?_
        refine bd_x (show zlk n = some () from if_pos r1) ?_
        unfold zlet
        refine zgeI_x ?_ (Nat.le_refl _)
        have ek : (zad S z 9 n).1 a = some (5, 0) := (if_neg (by omega)).trans r4
        refine bd_x (zpr_s ek) ?_
        exact e41 _ _
      · refine ⟨S, z, b, ?_, Nat.le_refl _, hR, hro, fun _ => e1⟩
        refine zgeI_x ?_ (Nat.le_refl _)
        refine bd_x (zgi_s r4 r9) ?_
        refine bd_x (zgi_s r4 r7) ?_
        rw [nI_add, if_pos (nI_le h (by omega)), if_neg hkp]
        refine bd_x (zgr_s r4 r10) ?_
        refine bd_x (zln_s e3) ?_
        refine bd_x (zgi_s r4 r7) ?_
        rw [if_pos (Int32.le_refl _)]
        exact e41 S z
theorem zgr_5 {V S : zS} {z : Nat} (hR : zR rows lm u z V S) {a v : Nat} (e : zgr V a 5 0 = some v) : v = a + 1 := by
  obtain ⟨b, -, -, h, -⟩ := hR.gb e
  exact h
theorem sX5_put {N z : Nat} {r : Int32} {T S Sr : zS} {x0 : Nat} {x1 : Int32} (hR : zR rows lm u z S Sr) (nx0 : zn rows x0) (h : fX5_put N S x0 x1 = some (r, T)) : zw (rX5_put N Sr z x0 x1) (tQ rows lm u z r T) := by
  unfold fX5_put fX5_put_0 at h
  obtain ⟨v1, e1, h⟩ := zb_some h
  obtain ⟨v2, e2, h⟩ := zb_some h
  obtain ⟨v3, e3, h⟩ := zb_some h
  obtain ⟨⟨m, hm⟩, hv⟩ := zgi_5 e1
  have ha := hR.r5 hm
  obtain ⟨n, s, b, hro⟩ := hR.1 x0 ha
  obtain ⟨r1, r2, r3, r4, r5, r6, r7, r8, r9, r10, r11⟩ := id hro
  have hv1 : v1 = nI s := hv.symm.trans r8
  have hv2 := zgr_5 hR e2
  subst hv2
  have hv3 : v3 = nI n := Option.some.inj (e3.symm.trans (zln_s r6))
  subst hv1
  subst hv3
  unfold rX5_put rX5_put_0
  refine zgeI_w (Nat.le_refl _) ?_
  refine zw.e (zrc_s r4) ?_
  have la := hR.2.2.2.2.1 x0 ha
  by_cases hs : s < n
  · have h := (if_pos (nI_lt hs (by omega))).symm.trans h
    obtain ⟨v4, e4, h⟩ := zb_some h
    obtain ⟨v5, e5, h⟩ := zb_some h
    obtain ⟨V6, e6, h⟩ := zb_some h
    obtain ⟨v7, e7, h⟩ := zb_some h
    obtain ⟨V8, e8, h⟩ := zb_some h
    cases h
    have hv4 := zgr_5 hR e4
    subst hv4
    have hv5 : v5 = nI s := (zgi_5 e5).2.symm.trans r8
    subst hv5
    have hV6 := e6.symm.trans (zis_s r6 hs (by omega))
    cases hV6
    have hv7 : v7 = nI s := by
      rw [← (zgi_5 e7).2]
      show zu S.2.1 (x0 + 1) s x1 x0 1 = _
      rw [zu_o (by omega)]
      exact r8
    subst hv7
    have hV8 := e8.symm.trans (zpi_s (S := (S.1, zu S.2.1 (x0 + 1) s x1, S.2.2.1, S.2.2.2)) r3)
    cases hV8
    obtain ⟨S', z', b', q1, q2, q3, q4, q5⟩ := (sX5_ms (N := N) hR ha hro (k := 1) (by decide)).2 (by omega)
    obtain ⟨p1, p2, p3, p4, p5, p6, p7, p8, p9, p10, p11⟩ := id q4
    have lb := q5 (by decide)
    have q1' : rX5_makeSpaceFor N Sr z x0 (1 : Int32) = some (1, S', z') := q1
    refine zw.e3 q1' ?_
    refine zgeI_w q2 ?_
    refine zw.f (by decide) ?_
    obtain ⟨f1, f2, f3, f4⟩ : lm ≤ b' ∧ b' < z' ∧ S'.1 b' = some (9, n) ∧ ∀ j, j < s → S'.2.1 b' j = S.2.1 (x0 + 1) j := by
      rcases p11 with ⟨g1, -, -⟩ | g
      · omega
      · exact g
    refine zw.e (zgr_s p4 p10) ?_
    refine zw.e (zgi_s p4 p9) ?_
    refine zw.e (zis_s f3 hs (by omega)) ?_
    refine zw.e (zgi_s (S := (S'.1, zu S'.2.1 b' s x1, S'.2.2.1, S'.2.2.2)) (x := nI s) p4 (by show zu S'.2.1 b' s x1 x0 2 = _; rw [zu_o (by omega)]; exact p9)) ?_
    refine zw.e (zpi_s (S := (S'.1, zu S'.2.1 b' s x1, S'.2.2.1, S'.2.2.2)) p4) ?_
    refine zw.s ⟨rfl, Nat.le_refl _, ?_⟩
    refine q3.rupd (s' := s + 1) ha q4 rfl rfl rfl rfl (fun x hx hx2 => ?_) (fun x hx hx2 => ?_) (by omega) ?_ ?_ ?_ ⟨fun e => by omega, fun _ j hj => ?_⟩
    · show zu (zu S.2.1 (x0 + 1) s x1) x0 1 _ x = _
      rw [zu_ne hx, zu_ne hx2]
    · show zu (zu S'.2.1 b' s x1) x0 2 _ x = _
      rw [zu_ne hx, zu_ne hx2]
    · show zu (zu S'.2.1 b' s x1) x0 2 _ x0 0 = _
      rw [zu_o (by omega), zu_o (by omega)]
      exact p7
    · show zu (zu S.2.1 (x0 + 1) s x1) x0 1 _ x0 1 = _
      rw [zu_s, nI_1]
    · show zu (zu S'.2.1 b' s x1) x0 2 _ x0 2 = _
      rw [zu_s, nI_1]
    · show zu (zu S'.2.1 b' s x1) x0 2 _ b' j = zu (zu S.2.1 (x0 + 1) s x1) x0 1 _ (x0 + 1) j
      rw [zu_o (show ¬ (b' = x0 ∧ j = 2) by omega), zu_o (show ¬ (x0 + 1 = x0 ∧ j = 1) by omega), zu_eq, zu_eq]
      by_cases e : j = s
      · rw [if_pos e, if_pos e]
      · rw [if_neg e, if_neg e]
        exact f4 j (by omega)
  · have h := (if_neg (nI_nlt (show n ≤ s by omega) (by omega))).symm.trans h
    cases h
    have q1 := (sX5_ms (N := N) hR ha hro (k := 1) (by decide)).1 (by omega)
    have q1' : rX5_makeSpaceFor N Sr z x0 (1 : Int32) = some (0, Sr, z) := q1
    refine zw.e3 q1' ?_
    refine zgeI_w (Nat.le_refl _) ?_
    refine zw.t rfl ?_
    exact zw.s ⟨rfl, Nat.le_refl _, hR⟩
theorem sX5_append {N z : Nat} {r : Int32} {T S Sr : zS} {x0 x1 : Nat} (hR : zR rows lm u z S Sr) (nx0 : zn rows x0) (nx1 : zn rows x1) (h : fX5_append N S x0 x1 = some (r, T)) : zw (rX5_append N Sr z x0 x1) (tQ rows lm u z r T) := by
  unfold fX5_append fX5_append_0 at h
  obtain ⟨v1, e1, h⟩ := zb_some h
  obtain ⟨v2, e2, h⟩ := zb_some h
  obtain ⟨v3, e3, h⟩ := zb_some h
  obtain ⟨v4, e4, h⟩ := zb_some h
  obtain ⟨⟨m, hm⟩, hv⟩ := zgi_5 e1
  obtain ⟨⟨mm, hmm⟩, hw⟩ := zgi_5 e2
  have ha := hR.r5 hm
  have hc := hR.r5 hmm
  obtain ⟨n, s, b, hro⟩ := hR.1 x0 ha
  obtain ⟨n2, t, b2, hro2⟩ := hR.1 x1 hc
  obtain ⟨r1, r2, r3, r4, r5, r6, r7, r8, r9, r10, r11⟩ := id hro
  obtain ⟨c1, c2, c3, c4, c5, c6, c7, c8, c9, c10, c11⟩ := id hro2
  have hv1 : v1 = nI s := hv.symm.trans r8
  have hv2 : v2 = nI t := hw.symm.trans c8
  have hv3 := zgr_5 hR e3
  subst hv3
  have hv4 : v4 = nI n := Option.some.inj (e4.symm.trans (zln_s r6))
  subst hv1
  subst hv2
  subst hv4
  have la := hR.2.2.2.2.1 x0 ha
  have lc := hR.2.2.2.2.1 x1 hc
  have x10 : x1 ≠ x0 + 1 := fun q => by rw [q, r6] at c3; cases c3
  unfold rX5_append rX5_append_0
  refine zgeI_w (Nat.le_refl _) ?_
  refine zw.e (zgi_s c4 c9) ?_
  refine zw.e (zrc_s r4) ?_
  rw [nI_add] at h
  by_cases hs : s + t ≤ n
  · have h := (if_pos (nI_le hs (by omega))).symm.trans h
    obtain ⟨v5, e5, h⟩ := zb_some h
    obtain ⟨v6, e6, h⟩ := zb_some h
    obtain ⟨v7, e7, h⟩ := zb_some h
    obtain ⟨v8, e8, h⟩ := zb_some h
    obtain ⟨V9, e9, h⟩ := zb_some h
    obtain ⟨v10, e10, h⟩ := zb_some h
    obtain ⟨v11, e11, h⟩ := zb_some h
    obtain ⟨V12, e12, h⟩ := zb_some h
    cases h
    have hv5 := zgr_5 hR e5
    subst hv5
    have hv6 := zgr_5 hR e6
    subst hv6
    have hv7 : v7 = nI s := (zgi_5 e7).2.symm.trans r8
    subst hv7
    have hv8 : v8 = nI t := (zgi_5 e8).2.symm.trans c8
    subst hv8
    have e9' : zcp S (x1 + 1) (nI 0) (x0 + 1) (nI s) (nI t) = some V9 := e9
    have hV9 := e9'.symm.trans (zcp_s c6 r6 (by omega) hs (by omega) (by omega))
    cases hV9
    have hv10 : v10 = nI s := by
      rw [← (zgi_5 e10).2]
      show zro S.2.1 (x0 + 1) _ x0 1 = _
      rw [zro_ne (by omega)]
      exact r8
    subst hv10
    have hv11 : v11 = nI t := by
      rw [← (zgi_5 e11).2]
      show zro S.2.1 (x0 + 1) _ x1 1 = _
      rw [zro_ne x10]
      exact c8
    subst hv11
    have hV12 := e12.symm.trans (zpi_s (S := (S.1, zro S.2.1 (x0 + 1) (va_cpy (S.2.1 (x1 + 1)) (S.2.1 (x0 + 1)) 0 s t), S.2.2.1, S.2.2.2)) r3)
    cases hV12
    obtain ⟨S', z', b', q1, q2, q3, q4, q5⟩ := (sX5_ms (N := N) hR ha hro (k := t) (by omega)).2 hs
    obtain ⟨p1, p2, p3, p4, p5, p6, p7, p8, p9, p10, p11⟩ := id q4
    obtain ⟨n3, t3, b3, hro3⟩ := q3.1 x1 hc
    obtain ⟨d1, d2, d3, d4, d5, d6, d7, d8, d9, d10, d11⟩ := id hro3
    have ht : t3 = t := by
      have := d8.symm.trans c8
      exact (nI_eq (by omega) (by omega)).mp this
    subst ht
    refine zw.e3 q1 ?_
    refine zgeI_w q2 ?_
    refine zw.f (by decide) ?_
    have xb : x0 ≠ b' ∧ x1 ≠ b' := by
      rcases p11 with ⟨g1, -, -⟩ | ⟨g1, -, -, -⟩
      · constructor
        · omega
        · rw [g1]; exact x10
      · constructor
        · omega
        · omega
    obtain ⟨l1, k1, k2⟩ : ∃ l, S'.1 b' = some (9, l) ∧ s + t3 ≤ l := by
      rcases p11 with ⟨g1, g2, g3⟩ | ⟨g1, g2, g3, g4⟩
      · refine ⟨0, by rw [g1]; exact g2, ?_⟩
        have : ¬ 0 < t3 := fun q => by
          have := q5 q
          omega
        omega
      · exact ⟨n, g3, hs⟩
    obtain ⟨l2, k3, k4, k5⟩ : ∃ l, S'.1 b3 = some (9, l) ∧ 0 + t3 ≤ l ∧ l ≤ 200 := by
      rcases d11 with ⟨g1, g2, g3⟩ | ⟨g1, g2, g3, g4⟩
      · exact ⟨0, by rw [g1]; exact g2, by omega, by omega⟩
      · exact ⟨n3, g3, by omega, d1⟩
    have k6 : l1 ≤ 200 := by
      rcases p11 with ⟨g1, g2, g3⟩ | ⟨g1, g2, g3, g4⟩
      · rw [g1, g2] at k1
        cases k1
        omega
      · rw [g3] at k1
        cases k1
        exact p1
    refine zw.e (zgr_s d4 d10) ?_
    refine zw.e (zgr_s p4 p10) ?_
    refine zw.e (zgi_s p4 p9) ?_
    refine zw.e (zgi_s d4 d9) ?_
    refine zw.e (zcp_s (s := 0) k3 k1 k4 k2 (by omega) (by omega)) ?_
    refine zw.e (zgi_s (S := (S'.1, zro S'.2.1 b' (va_cpy (S'.2.1 b3) (S'.2.1 b') 0 s t3), S'.2.2.1, S'.2.2.2)) (x := nI s) p4 (by show zro S'.2.1 b' _ x0 2 = _; rw [zro_ne xb.1]; exact p9)) ?_
    refine zw.e (zgi_s (S := (S'.1, zro S'.2.1 b' (va_cpy (S'.2.1 b3) (S'.2.1 b') 0 s t3), S'.2.2.1, S'.2.2.2)) (x := nI t3) d4 (by show zro S'.2.1 b' _ x1 2 = _; rw [zro_ne xb.2]; exact d9)) ?_
    refine zw.e (zpi_s (S := (S'.1, zro S'.2.1 b' (va_cpy (S'.2.1 b3) (S'.2.1 b') 0 s t3), S'.2.2.1, S'.2.2.2)) p4) ?_
    refine zw.s ⟨rfl, Nat.le_refl _, ?_⟩
    refine q3.rupd (s' := s + t3) ha q4 rfl rfl rfl rfl (fun x hx hx2 => ?_) (fun x hx hx2 => ?_) hs ?_ ?_ ?_ ⟨fun e => ?_, fun e j hj => ?_⟩
    · show zu (zro S.2.1 (x0 + 1) _) x0 1 _ x = _
      rw [zu_ne hx, zro_ne hx2]
    · show zu (zro S'.2.1 b' _) x0 2 _ x = _
      rw [zu_ne hx, zro_ne hx2]
    · show zu (zro S'.2.1 b' _) x0 2 _ x0 0 = _
      rw [zu_o (by omega), zro_ne xb.1]
      exact p7
    · show zu (zro S.2.1 (x0 + 1) _) x0 1 _ x0 1 = _
      rw [zu_s, nI_add]
    · show zu (zro S'.2.1 b' _) x0 2 _ x0 2 = _
      rw [zu_s, nI_add]
    · have : ¬ 0 < t3 := fun q => by
        have := q5 q
        omega
      rcases p11 with ⟨g1, g2, g3⟩ | ⟨g1, g2, g3, g4⟩
      · omega
      · omega
    · show zu (zro S'.2.1 b' (va_cpy (S'.2.1 b3) (S'.2.1 b') 0 s t3)) x0 2 _ b' j = zu (zro S.2.1 (x0 + 1) (va_cpy (S.2.1 (x1 + 1)) (S.2.1 (x0 + 1)) 0 s t3)) x0 1 _ (x0 + 1) j
      rw [zu_o (fun q => xb.1 q.1.symm), zu_o (by omega), zro_eq, zro_eq]
      simp only [va_cpy, Nat.zero_add]
      by_cases hj2 : s ≤ j ∧ j < s + t3
      · rw [if_pos hj2, if_pos hj2]
        rcases d11 with ⟨g1, g2, g3⟩ | ⟨g1, g2, g3, g4⟩
        · omega
        · exact g4 (j - s) (by omega)
      · rw [if_neg hj2, if_neg hj2]
        rcases p11 with ⟨g1, g2, g3⟩ | ⟨g1, g2, g3, g4⟩
        · omega
        · exact g4 j (by omega)
  · have h := (if_neg (nI_ge (show n < s + t by omega) (by omega))).symm.trans h
    cases h
    have q1 := (sX5_ms (N := N) hR ha hro (k := t) (by omega)).1 hs
    refine zw.e3 q1 ?_
    refine zgeI_w (Nat.le_refl _) ?_
    refine zw.t rfl ?_
    exact zw.s ⟨rfl, Nat.le_refl _, hR⟩
end REL2
section ZVB
variable {K : Nat → Option (Nat × Nat)} {iv : Nat → Nat → Int32} {rv : Nat → Nat → Option Nat} {lv : Nat → Nat → Int64} {a n s j t : Nat} {x i v : Int32}
theorem zib_v (hk : K (a + 1) = some (9, n)) (hi : i = nI j) (hj : j < n) (hn : n < 2 ^ 31) (hs : iv a 1 = nI s) (hjs : j < s) (hsb : s < 2 ^ 31) (hv : iv (a + 1) j = x) : zib (K, iv, rv, lv) (a + 1) i = some x := by
  have h : i < iv (a + 1 - 1) 1 := by
    rw [Nat.add_sub_cancel, hs, hi]
    exact nI_lt hjs hsb
  exact (if_pos h).trans (zil_v hk hi hj hn hv)
theorem zibs_v (hk : K (a + 1) = some (9, n)) (hi : i = nI j) (hj : j < n) (hn : n < 2 ^ 31) (hs : iv a 1 = nI s) (hjs : j < s) (hsb : s < 2 ^ 31) : zibs (K, iv, rv, lv) (a + 1) i x = some (K, zu iv (a + 1) j x, rv, lv) := by
  have h : i < iv (a + 1 - 1) 1 := by
    rw [Nat.add_sub_cancel, hs, hi]
    exact nI_lt hjs hsb
  exact (if_pos h).trans (zis_v hk hi hj hn)
theorem zpz_0 (hk : K a = some (5, n)) : zpz (K, iv, rv, lv) a 0 = some (K, zu iv a 1 0, rv, lv) := (if_pos (Or.inl rfl)).trans (zpi_at hk)
theorem zpz_v (hk : K a = some (5, n)) (hs : iv a 1 = nI s) (hv : v = nI t) (ht : t ≤ s) (hb : s < 2 ^ 31) : zpz (K, iv, rv, lv) a v = some (K, zu iv a 1 v, rv, lv) := by
  refine (if_pos (Or.inr ⟨?_, ?_⟩)).trans (zpi_at hk)
  · rw [hv]
    exact nI_pos (by omega)
  · show v ≤ iv a 1
    rw [hs, hv]
    exact nI_le ht hb
end ZVB
