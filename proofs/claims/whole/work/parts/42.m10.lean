/-! the model: made, at, built, alike -/
section M10
variable {N b : Nat} {K : Nat → Option (Nat × Nat)} {iv : Nat → Nat → Int32} {rv : Nat → Nat → Option Nat} {lv : Nat → Nat → Int64}
variable {tp : List Int32} {nt : Nat} {tx : Nat → List Int32} {lk : Nat → Bool} {ns : Nat} {tl : Nat → Nat} {pa : Nat → Int32} {pb : Nat → Nat} {ins : Nat → List Nat} {wd : Nat → Nat → Int32}
/-- all that building needs to know -/
def mA (b : Nat) (iv : Nat → Nat → Int32) (tp : List Int32) (nt : Nat) (tx : Nat → List Int32) (lk : Nat → Bool) (ns : Nat) (tl : Nat → Nat) (pa : Nat → Int32) (pb : Nat → Nat) (ins : Nat → List Nat) (wd : Nat → Nat → Int32) : Prop :=
  mT b iv tp nt tx lk ∧ mP b iv ns tl pa pb ins ∧ mW b iv wd ∧ dT tp nt tx lk ∧ dP nt ns tl pa pb ins ∧ dW wd
theorem mA.fr {iv' : Nat → Nat → Int32} {rs ks : List Nat} (h : mA b iv tp nt tx lk ns tl pa pb ins wd) (hf : fM b rs ks iv iv') (h1 : (0 ∉ rs ∧ 1 ∉ rs ∧ 2 ∉ rs ∧ 3 ∉ rs ∧ 4 ∉ rs) ∧ 5 ∉ rs ∧ (0 ∉ rs ∧ 6 ∉ rs ∧ 7 ∉ rs ∧ 8 ∉ rs ∧ 9 ∉ rs ∧ 10 ∉ rs)) (h2 : (2 ∉ ks ∧ 3 ∉ ks) ∧ 8 ∉ ks) : mA b iv' tp nt tx lk ns tl pa pb ins wd :=
  ⟨h.1.fr hf h1.1 h2.1, h.2.1.fr hf h1.2.2 h2.2, h.2.2.1.fr hf h1.2.1, h.2.2.2⟩
/-- take the words of a room, build up to step s, in a half -/
theorem m_tb {α : Type} {P : α → Prop} {hf r s : Nat} {F : zS → Option α} (hL : mL b K rv) (hA : mA b iv tp nt tx lk ns tl pa pb ins wd) (hr : r < 8) (hs : s < ns) (hh : hf < 2) (hN : 3000 < N)
    (k : ∀ iv', fM b [11, 12, 13, 14, 15] [18] iv iv' → mB b hf iv iv' ∨ True → (∀ p, (p < 24 * hf ∨ 24 * hf + 24 ≤ p) → ∀ o, mS b iv p o → (∀ L, o = some L → L.length ≤ 200) → mS b iv' p o) → (∀ j, j ≤ s → mS b iv' (24 * hf + j) (thg tx lk tl pa pb ins (wd r) j)) → mHd b iv' (wd r) → zw (F (K, iv', rv, lv)) P) :
    zw ((zrc (K, iv, rv, lv) b 8).bind fun _ => (fX8_take N (K, iv, rv, lv) b (nI r)).bind fun S1 => (zrc S1 b 8).bind fun _ => (fX8_build N S1 b (nI hf) (nI s)).bind F) P := by
  obtain ⟨hT, hP, hW, hdT, hdP, hdW⟩ := hA
  refine zw.e (zrc_at hL.o) ?_
  refine zw.c (m_take hL hW hr (by omega)) ?_
  rintro S ⟨iv1, rfl, f1, hH⟩
  refine zw.e (zrc_at hL.o) ?_
  refine zw.c (m_buildS hL (hT.fr f1 (by decide) (by decide)) hdT (hP.fr f1 (by decide) (by decide)) hdP hs hh hH (fun w hw => hdW r w hr hw) hN) ?_
  rintro S ⟨iv2, rfl, f2, hS⟩
  exact k iv2 ((f1.mo (by simp) (by simp)).tr (f2.1.mo (by simp) (by simp))) (Or.inr trivial) (fun p hp o ho hg => f2.mS hp (ho.fr f1 (by decide)) hg) hS (hH.fr f2.1 (by decide))
theorem thg_good (hA : mA b iv tp nt tx lk ns tl pa pb ins wd) {h : Nat → Int32} (hh : ∀ w, w < 8 → isB (h w)) {s : Nat} (hs : s < ns) {L : List Int32} (e : thg tx lk tl pa pb ins h s = some L) : gT L := tab_good hA.2.2.2.1 hA.2.2.2.2.1 hh (s + 1) hs s L e
def spMade (o : Option (List Int32)) : Int32 := match o with
  | none => -2
  | some L => nI L.length
theorem nI_n1 {n : Nat} (hn : n < 2 ^ 31) : ¬ nI n = -1 := fun q => by
  have := congrArg Int32.toInt q
  rw [nI_toInt hn] at this
  have h2 : (-1 : Int32).toInt = -1 := rfl
  omega
theorem m_made {x y : Int32} (hL : mL b K rv) (hA : mA b iv tp nt tx lk ns tl pa pb ins wd) (hN : 3000 < N) :
    zw (fX8_made N (K, iv, rv, lv) b x y) (fun q => q.1 = (if inR 8 x ∧ inR ns y then spMade (thg tx lk tl pa pb ins (wd x.toNatClampNeg) y.toNatClampNeg) else -1) ∧ ∃ iv', q.2 = (K, iv', rv, lv) ∧ fM b [11, 12, 13, 14, 15] [18] iv iv') := by
  have hn := hA.2.2.2.2.1.1
  unfold fX8_made fX8_made_0 fX8_made_15 fX8_made_49
  refine zw.e2 m_isRoom ?_
  by_cases h1 : inR 8 x
  · rw [if_pos h1]
    refine zw.f (by decide) ?_
    refine zw.e (zrc_at hL.o) ?_
    refine zw.e2 (m_isStep hL hA.2.1 hn) ?_
    by_cases h2 : inR ns y
    · rw [if_pos h2]
      refine zw.f (by decide) ?_
      obtain ⟨r, hr, rfl⟩ := h1.at (by decide)
      obtain ⟨s, hs, rfl⟩ := h2.at (by omega)
      refine m_tb (hf := 0) hL hA hr hs (by decide) hN (fun iv' f1 _ _ hS hH => ?_)
      have hs9 := hS s (Nat.le_refl _)
      rw [show 24 * 0 + s = s by omega] at hs9
      have hans : (if inR 8 (nI r) ∧ inR ns (nI s) then spMade (thg tx lk tl pa pb ins (wd (nI r).toNatClampNeg) (nI s).toNatClampNeg) else -1) = spMade (thg tx lk tl pa pb ins (wd r) s) := by
        rw [if_pos ⟨h1, h2⟩, nI_clamp (show r < 2 ^ 31 by omega), nI_clamp (show s < 2 ^ 31 by omega)]
      rw [hans]
      refine zw.e (zgr_at hL.o hL.r_size) ?_
      refine zw.e (zil_v hL.k_size rfl (by omega) (by decide) hs9.sz) ?_
      have hg := fun L => thg_good hA (fun w hw => hA.2.2.2.2.2 r w hr hw) hs (L := L)
      cases ho : thg tx lk tl pa pb ins (wd r) s with
      | none => exact zw.t rfl (zw.s ⟨rfl, iv', rfl, f1⟩)
      | some L =>
        refine zw.f (nI_n1 (by have := (hg L ho).1; omega)) ?_
        refine zw.e (zgr_at hL.o hL.r_size) ?_
        rw [ho] at hs9
        refine zw.e (zil_v hL.k_size rfl (by omega) (by decide) hs9.sz) ?_
        exact zw.s ⟨rfl, iv', rfl, f1⟩
    · rw [if_neg h2]
      exact zw.t rfl (zw.s ⟨by rw [if_neg (fun q => h2 q.2)], iv, rfl, fM.rf⟩)
  · rw [if_neg h1]
    exact zw.t rfl (zw.s ⟨by rw [if_neg (fun q => h1 q.1)], iv, rfl, fM.rf⟩)
def spAt (o : Option (List Int32)) (k : Nat) : Int32 := match o with
  | none => -2
  | some L => if k < L.length then L.getD k 0 else -1
theorem m_at {x y v : Int32} (hL : mL b K rv) (hA : mA b iv tp nt tx lk ns tl pa pb ins wd) (hN : 3000 < N) :
    zw (fX8_at N (K, iv, rv, lv) b x y v) (fun q => q.1 = (if inR 8 x ∧ inR ns y ∧ inR 200 v then spAt (thg tx lk tl pa pb ins (wd x.toNatClampNeg) y.toNatClampNeg) v.toNatClampNeg else -1) ∧ ∃ iv', q.2 = (K, iv', rv, lv) ∧ fM b [11, 12, 13, 14, 15] [18] iv iv') := by
  have hn := hA.2.2.2.2.1.1
  unfold fX8_at fX8_at_0 fX8_at_26 fX8_at_78
  refine zw.e2 m_isRoom ?_
  by_cases h1 : inR 8 x
  · rw [if_pos h1]
    refine zw.f (by decide) ?_
    refine zw.e (zrc_at hL.o) ?_
    refine zw.e2 (m_isStep hL hA.2.1 hn) ?_
    by_cases h2 : inR ns y
    · rw [if_pos h2]
      refine zw.f (by decide) ?_
      refine zw.e2 (m_inR (n := 199) (by decide)) ?_
      by_cases h3 : inR 200 v
      · rw [if_pos h3]
        refine zw.f (by decide) ?_
        obtain ⟨r, hr, rfl⟩ := h1.at (by decide)
        obtain ⟨s, hs, rfl⟩ := h2.at (by omega)
        obtain ⟨k, hk, rfl⟩ := h3.at (by decide)
        refine m_tb (hf := 0) hL hA hr hs (by decide) hN (fun iv' f1 _ _ hS hH => ?_)
        have hs9 := hS s (Nat.le_refl _)
        rw [show 24 * 0 + s = s by omega] at hs9
        rw [if_pos ⟨h1, h2, h3⟩, nI_clamp (show r < 2 ^ 31 by omega), nI_clamp (show s < 2 ^ 31 by omega), nI_clamp (show k < 2 ^ 31 by omega)]
        refine zw.e (zgr_at hL.o hL.r_size) ?_
        refine zw.e (zil_v hL.k_size rfl (by omega) (by decide) hs9.sz) ?_
        have hg := fun L => thg_good hA (fun w hw => hA.2.2.2.2.2 r w hr hw) hs (L := L)
        cases ho : thg tx lk tl pa pb ins (wd r) s with
        | none => exact zw.t rfl (zw.s ⟨rfl, iv', rfl, f1⟩)
        | some L =>
          have hl := (hg L ho).1
          refine zw.f (nI_n1 (by omega)) ?_
          refine zw.e (zgr_at hL.o hL.r_size) ?_
          rw [ho] at hs9
          refine zw.e (zil_v (x := nI L.length) hL.k_size rfl (by omega) (by decide) hs9.1) ?_
          by_cases hkl : k < L.length
          · refine zw.f (nI_ge hkl (by omega)) ?_
            refine zw.e (zgr_at hL.o hL.r_bytes) ?_
            refine zw.e (zil_v (j := 200 * s + k) hL.k_bytes (by rw [← nI_add, ← nI_mul]; rfl) (by omega) (by decide) (hs9.2 k hkl)) ?_
            exact zw.s ⟨by simp only [spAt]; rw [if_pos hkl], iv', rfl, f1⟩
          · exact zw.t (nI_le (by omega) (by omega)) (zw.s ⟨by simp only [spAt]; rw [if_neg hkl], iv', rfl, f1⟩)
      · rw [if_neg h3]
        exact zw.t rfl (zw.s ⟨by rw [if_neg (fun q => h3 q.2.2)], iv, rfl, fM.rf⟩)
    · rw [if_neg h2]
      exact zw.t rfl (zw.s ⟨by rw [if_neg (fun q => h2 q.2.1)], iv, rfl, fM.rf⟩)
  · rw [if_neg h1]
    exact zw.t rfl (zw.s ⟨by rw [if_neg (fun q => h1 q.1)], iv, rfl, fM.rf⟩)
theorem m_both {p q s : Nat} (hL : mL b K rv) (hA : mA b iv tp nt tx lk ns tl pa pb ins wd) (hp : p < 8) (hq : q < 8) (hs : s < ns) (hN : 3000 < N) :
    zw (fX8_both N (K, iv, rv, lv) b (nI p) (nI q) (nI s)) (fun z => ∃ iv', z = (K, iv', rv, lv) ∧ fM b [11, 12, 13, 14, 15] [18] iv iv' ∧ (∀ j, j ≤ s → mS b iv' j (thg tx lk tl pa pb ins (wd p) j)) ∧ ∀ j, j ≤ s → mS b iv' (24 + j) (thg tx lk tl pa pb ins (wd q) j)) := by
  have hn := hA.2.2.2.2.1.1
  unfold fX8_both fX8_both_0
  refine m_tb (hf := 0) hL hA hp hs (by decide) hN (fun iv1 f1 _ _ hS1 _ => ?_)
  refine m_tb (hf := 1) hL (hA.fr f1 (by decide) (by decide)) hq hs (by decide) hN (fun iv2 f2 _ k2 hS2 _ => ?_)
  refine zw.s ⟨iv2, rfl, f1.tr f2, fun j hj => ?_, fun j hj => hS2 j hj⟩
  have h9 := hS1 j hj
  rw [show 24 * 0 + j = j by omega] at h9
  exact k2 j (by omega) _ h9 (fun L e => (thg_good hA (fun w hw => hA.2.2.2.2.2 p w hp hw) (show j < ns by omega) e).1)
theorem m_alike {x y v : Int32} (hL : mL b K rv) (hA : mA b iv tp nt tx lk ns tl pa pb ins wd) (hN : 3000 < N) :
    zw (fX8_alike N (K, iv, rv, lv) b x y v) (fun q => q.1 = (if inR 8 x ∧ inR 8 y ∧ inR ns v then (if thg tx lk tl pa pb ins (wd x.toNatClampNeg) v.toNatClampNeg = thg tx lk tl pa pb ins (wd y.toNatClampNeg) v.toNatClampNeg then 1 else 0) else -1) ∧ ∃ iv', q.2 = (K, iv', rv, lv) ∧ fM b [11, 12, 13, 14, 15] [18] iv iv') := by
  have hn := hA.2.2.2.2.1.1
  unfold fX8_alike fX8_alike_0 fX8_alike_22 fX8_alike_44
  refine zw.e2 m_isRoom ?_
  by_cases h1 : inR 8 x
  · rw [if_pos h1]
    refine zw.f (by decide) ?_
    refine zw.e2 m_isRoom ?_
    by_cases h2 : inR 8 y
    · rw [if_pos h2]
      refine zw.f (by decide) ?_
      refine zw.e (zrc_at hL.o) ?_
      refine zw.e2 (m_isStep hL hA.2.1 hn) ?_
      by_cases h3 : inR ns v
      · rw [if_pos h3]
        refine zw.f (by decide) ?_
        obtain ⟨p, hp, rfl⟩ := h1.at (by decide)
        obtain ⟨q, hq, rfl⟩ := h2.at (by decide)
        obtain ⟨s, hs, rfl⟩ := h3.at (by omega)
        rw [if_pos ⟨h1, h2, h3⟩, nI_clamp (show p < 2 ^ 31 by omega), nI_clamp (show q < 2 ^ 31 by omega), nI_clamp (show s < 2 ^ 31 by omega)]
        refine zw.e (zrc_at hL.o) ?_
        refine zw.c (m_both hL hA hp hq hs hN) ?_
        rintro S ⟨iv1, rfl, f1, g1, g2⟩
        refine zw.e (zrc_at hL.o) ?_
        refine zw.c2 (m_areAlike hL (by omega) (g1 s (Nat.le_refl _)) (g2 s (Nat.le_refl _)) (fun L e => (thg_good hA (fun w hw => hA.2.2.2.2.2 p w hp hw) hs e).1) (fun L e => (thg_good hA (fun w hw => hA.2.2.2.2.2 q w hq hw) hs e).1) (by omega)) ?_
        intro r S e
        cases e
        by_cases hal : thg tx lk tl pa pb ins (wd p) s = thg tx lk tl pa pb ins (wd q) s
        · rw [if_pos hal]
          exact zw.f (by decide) (zw.s ⟨rfl, iv1, rfl, f1⟩)
        · rw [if_neg hal]
          exact zw.t rfl (zw.s ⟨rfl, iv1, rfl, f1⟩)
      · rw [if_neg h3]
        exact zw.t rfl (zw.s ⟨by rw [if_neg (fun q => h3 q.2.2)], iv, rfl, fM.rf⟩)
    · rw [if_neg h2]
      exact zw.t rfl (zw.s ⟨by rw [if_neg (fun q => h2 q.2.1)], iv, rfl, fM.rf⟩)
  · rw [if_neg h1]
    exact zw.t rfl (zw.s ⟨by rw [if_neg (fun q => h1 q.1)], iv, rfl, fM.rf⟩)
theorem m_built {x : Int32} (hL : mL b K rv) (hA : mA b iv tp nt tx lk ns tl pa pb ins wd) (hN : 3000 < N) :
    zw (fX8_built N (K, iv, rv, lv) b x) (fun q => q.1 = (if inR 8 x then nI (fb_ct (fun s => (thg tx lk tl pa pb ins (wd x.toNatClampNeg) s).isSome) ns) else -1) ∧ ∃ iv', q.2 = (K, iv', rv, lv) ∧ fM b [11, 12, 13, 14, 15] [18] iv iv') := by
  obtain ⟨hT, hP, hW, hdT, hdP, hdW⟩ := id hA
  have hn := hdP.1
  unfold fX8_built fX8_built_0
  refine zw.e2 m_isRoom ?_
  by_cases h1 : inR 8 x
  · rw [if_pos h1]
    refine zw.f (by decide) ?_
    obtain ⟨r, hr, rfl⟩ := h1.at (by decide)
    rw [if_pos h1, nI_clamp (show r < 2 ^ 31 by omega)]
    refine zw.e (zrc_at hL.o) ?_
    refine zw.c (m_take hL hW hr (by omega)) ?_
    rintro S ⟨iv1, rfl, f1, hH⟩
    have hP1 := hP.fr f1 (by decide) (by decide)
    refine zw.e (zgi_v hL.o hP1.1) ?_
    refine zw.e (zrc_at hL.o) ?_
    refine zw.c (m_build (hf := 0) (n := ns) hL (hT.fr f1 (by decide) (by decide)) hdT hP1 hdP (Nat.le_refl _) (by decide) hH (fun w hw => hdW r w hr hw) (fun k hk => ?_) hN) ?_
    · have e1 : nI ns - 1 = Int32.ofInt ((ns : Int) - 1) := by
        rw [Int32.ofInt_sub]
        rfl
      rw [e1, Int32.lt_iff_toInt_lt, nI_toInt (by omega), Int32.toInt_ofInt_of_le (by omega) (by omega)]
      omega
    rintro S ⟨iv2, rfl, f2, hS⟩
    have hP2 := hP1.fr f2.1 (by decide) (by decide)
    have f12 : fM b [11, 12, 13, 14, 15] [18] iv iv2 := (f1.mo (by simp) (by simp)).tr (f2.1.mo (by simp) (by simp))
    unfold lX8_built_29
    refine zw.loop (fun m y => ∃ k, k + m = ns ∧ y = ((K, iv2, rv, lv), b, nI (fb_ct (fun s => (thg tx lk tl pa pb ins (wd r) s).isSome) k), nI k)) ?_ N ns _ (by omega) ⟨0, by omega, rfl⟩
    rintro m ⟨S, x0, x2, x3⟩ Kc ⟨k, hk, hy⟩ ih
    cases hy
    dsimp only
    unfold fX8_built_29 fX8_built_53
    refine zw.e (zgi_v hL.o hP2.1) ?_
    by_cases hm : m = 0
    · have : k = ns := by omega
      subst this
      exact zw.t (Int32.le_refl _) (zw.s ⟨rfl, iv2, rfl, f12⟩)
    · refine zw.f (nI_ge (show k < ns by omega) (by omega)) ?_
      have h9 := hS k (by omega)
      rw [show 24 * 0 + k = k by omega, tab_lt (show k < ns by omega)] at h9
      have h9 : mS b iv2 k (thg tx lk tl pa pb ins (wd r) k) := h9
      refine zw.e (zgr_at hL.o hL.r_size) ?_
      refine zw.e (zil_v hL.k_size rfl (by omega) (by decide) h9.sz) ?_
      have fin : ∀ d : Nat, d = (if (thg tx lk tl pa pb ins (wd r) k).isSome then 1 else 0) → zw (Kc ((K, iv2, rv, lv), b, nI (fb_ct (fun s => (thg tx lk tl pa pb ins (wd r) s).isSome) k) + nI d, nI k + 1)) (fun q => q.1 = nI (fb_ct (fun s => (thg tx lk tl pa pb ins (wd r) s).isSome) ns) ∧ ∃ iv', q.2 = (K, iv', rv, lv) ∧ fM b [11, 12, 13, 14, 15] [18] iv iv') := fun d hd => ih (m - 1) _ (by omega) ⟨k + 1, by omega, by rw [nI_1 k, nI_add, fb_ct_succ, hd]⟩
      cases ho : thg tx lk tl pa pb ins (wd r) k with
      | none => exact zw.t rfl (fin 0 (by rw [ho]; rfl))
      | some L => exact zw.f (nI_n1 (by have := (thg_good hA (fun w hw => hdW r w hr hw) (show k < ns by omega) ho).1; omega)) (fin 1 (by rw [ho]; rfl))
  · rw [if_neg h1]
    exact zw.t rfl (zw.s ⟨by rw [if_neg h1], iv, rfl, fM.rf⟩)
end M10
