/-! the model: build, both, areAlike -/
section M9
variable {N b : Nat} {K : Nat → Option (Nat × Nat)} {iv : Nat → Nat → Int32} {rv : Nat → Nat → Option Nat} {lv : Nat → Nat → Int64}
variable {tp : List Int32} {nt : Nat} {tx : Nat → List Int32} {lk : Nat → Bool} {ns : Nat} {tl : Nat → Nat} {pa : Nat → Int32} {pb : Nat → Nat} {ins : Nat → List Nat} {wd : Nat → Nat → Int32}
/-- since iv0 only things of one half may have changed, and scratch -/
def mB (b hf : Nat) (iv0 iv : Nat → Nat → Int32) : Prop := fM b [12, 13, 14, 15] [18] iv0 iv ∧ (∀ j, (j < 24 * hf ∨ 24 * hf + 24 ≤ j) → iv (b + 12) j = iv0 (b + 12) j) ∧ ∀ j, (j < 4800 * hf ∨ 4800 * hf + 4800 ≤ j) → iv (b + 13) j = iv0 (b + 13) j
theorem mB.mS {hf p : Nat} {iv0 iv1 : Nat → Nat → Int32} {o : Option (List Int32)} (h : mB b hf iv0 iv1) (hq : p < 24 * hf ∨ 24 * hf + 24 ≤ p) (hs : mS b iv0 p o) (hg : ∀ L, o = some L → L.length ≤ 200) : mS b iv1 p o := by
  cases o with
  | none => show iv1 (b + 12) p = -1; rw [h.2.1 p hq]; exact hs
  | some L =>
    have := hg L rfl
    exact ⟨by rw [h.2.1 p hq]; exact hs.1, hs.2.eq fun k hk => h.2.2 _ (by omega)⟩
theorem m_build {hf n : Nat} {x : Int32} {h : Nat → Int32} (hL : mL b K rv) (hT : mT b iv tp nt tx lk) (hdT : dT tp nt tx lk) (hP : mP b iv ns tl pa pb ins) (hdP : dP nt ns tl pa pb ins) (hn : n ≤ ns) (hh : hf < 2) (hH : mHd b iv h) (hw : ∀ w, w < 8 → isB (h w)) (hx : ∀ k, k ≤ 24 → (x < nI k ↔ n < k + 0 ∨ n = k)) (hN : 3000 < N) :
    zw (fX8_build N (K, iv, rv, lv) b (nI hf) x) (fun q => ∃ iv', q = (K, iv', rv, lv) ∧ mB b hf iv iv' ∧ ∀ s, s < n → mS b iv' (24 * hf + s) (tab tx lk tl pa pb ins h n s)) := by
  have hn24 := hdP.1
  unfold fX8_build fX8_build_0 lX8_build_2
  refine zw.loop (fun m y => ∃ k iv1, k + m = n ∧ y = ((K, iv1, rv, lv), b, nI hf, x, nI k) ∧ mB b hf iv iv1 ∧ ∀ s, s < k → mS b iv1 (24 * hf + s) (tab tx lk tl pa pb ins h k s)) ?_ N n _ (by omega) ⟨0, iv, by omega, rfl, ⟨fM.rf, fun _ _ => rfl, fun _ _ => rfl⟩, fun s hs => by omega⟩
  rintro m ⟨S, x0, x1, x2, x3⟩ Kc ⟨k, iv1, hk, hy, hB, g⟩ ih
  cases hy
  dsimp only
  unfold fX8_build_2
  by_cases hm : m = 0
  · have : k = n := by omega
    subst this
    exact zw.t ((hx k (by omega)).mpr (Or.inr rfl)) (zw.s ⟨iv1, rfl, hB, g⟩)
  · refine zw.f (fun q => by have := (hx k (by omega)).mp q; omega) ?_
    refine zw.e (zrc_at hL.o) ?_
    have hgd := tab_good (h := h) hdT hdP hw k (by omega)
    refine zw.c (m_make hL (hT.fr hB.1 (by decide) (by decide)) hdT (hP.fr hB.1 (by decide) (by decide)) hdP (show k < ns by omega) hh g hgd (hH.fr hB.1 (by decide)) hw hN) ?_
    rintro S ⟨iv2, rfl, q1, q2⟩
    refine ih (m - 1) _ (by omega) ⟨k + 1, iv2, by omega, by rw [nI_1 k], ⟨hB.1.tr q1.1, fun j hj => by rw [q1.2.1 j (by omega)]; exact hB.2.1 j hj, fun j hj => by rw [q1.2.2 j (by omega)]; exact hB.2.2 j hj⟩, fun s hs => ?_⟩
    show mS b iv2 (24 * hf + s) (if s = k then mk tx lk tl pa pb ins h (tab tx lk tl pa pb ins h k) k else tab tx lk tl pa pb ins h k s)
    by_cases e : s = k
    · rw [if_pos e, e]; exact q2
    · rw [if_neg e]
      exact q1.mS (by omega) (g s (by omega)) (fun L e => (hgd s L e).1)
/-- the things of one room -/
abbrev thg (tx : Nat → List Int32) (lk : Nat → Bool) (tl : Nat → Nat) (pa : Nat → Int32) (pb : Nat → Nat) (ins : Nat → List Nat) (h : Nat → Int32) (s : Nat) : Option (List Int32) := tab tx lk tl pa pb ins h (s + 1) s
theorem bx_step {s : Nat} : ∀ k, k ≤ 24 → (nI s < nI k ↔ s + 1 < k + 0 ∨ s + 1 = k) ∨ 24 < s := by
  intro k hk
  by_cases h : 24 < s
  · exact Or.inr h
  · refine Or.inl ?_
    rw [nI_ltI (by omega) (by omega)]
    omega
theorem m_buildS {hf s : Nat} {h : Nat → Int32} (hL : mL b K rv) (hT : mT b iv tp nt tx lk) (hdT : dT tp nt tx lk) (hP : mP b iv ns tl pa pb ins) (hdP : dP nt ns tl pa pb ins) (hs : s < ns) (hh : hf < 2) (hH : mHd b iv h) (hw : ∀ w, w < 8 → isB (h w)) (hN : 3000 < N) :
    zw (fX8_build N (K, iv, rv, lv) b (nI hf) (nI s)) (fun q => ∃ iv', q = (K, iv', rv, lv) ∧ mB b hf iv iv' ∧ ∀ k, k ≤ s → mS b iv' (24 * hf + k) (thg tx lk tl pa pb ins h k)) := by
  have hn24 := hdP.1
  refine zw.imp (m_build (n := s + 1) hL hT hdT hP hdP hs hh hH hw (fun k hk => (bx_step k hk).resolve_right (by omega)) hN) ?_
  rintro q ⟨iv', e1, e2, e3⟩
  exact ⟨iv', e1, e2, fun k hk => by have := e3 k (by omega); rwa [tab_lt (show k < s + 1 by omega)] at this⟩
theorem m_areAlike {s : Nat} {o1 o2 : Option (List Int32)} (hL : mL b K rv) (hs : s < 24) (h1 : mS b iv s o1) (h2 : mS b iv (24 + s) o2) (g1 : ∀ L, o1 = some L → L.length ≤ 200) (g2 : ∀ L, o2 = some L → L.length ≤ 200) (hN : 300 < N) : zw (fX8_areAlike N (K, iv, rv, lv) b (nI s)) (fun q => q = (if o1 = o2 then 1 else 0, (K, iv, rv, lv))) := by
  unfold fX8_areAlike fX8_areAlike_0
  have hix : (24 : Int32) + nI s = nI (24 + s) := nI_add 24 s
  refine zw.e (zgr_at hL.o hL.r_size) ?_
  refine zw.e (zil_v hL.k_size rfl (by omega) (by decide) h1.sz) ?_
  refine zw.e (zgr_at hL.o hL.r_size) ?_
  refine zw.e (zil_v hL.k_size hix (by omega) (by decide) h2.sz) ?_
  have nn : ∀ L : List Int32, L.length ≤ 200 → ¬ nI L.length = -1 := fun L hl q => by
    have := congrArg Int32.toInt q
    rw [nI_toInt (by omega)] at this
    have h2 : (-1 : Int32).toInt = -1 := rfl
    omega
  cases o1 with
  | none =>
    cases o2 with
    | none =>
      refine zw.t rfl ?_
      unfold lX8_areAlike_22
      refine zw.loop (fun m y => m = 0 ∧ y = ((K, iv, rv, lv), b, nI s, 0)) ?_ N 0 _ (by omega) ⟨rfl, rfl⟩
      rintro m ⟨S, x0, x1, x2⟩ Kc ⟨hm, hy⟩ ih
      cases hy
      dsimp only
      unfold fX8_areAlike_22
      refine zw.e (zgr_at hL.o hL.r_size) ?_
      refine zw.e (zil_v hL.k_size rfl (by omega) (by decide) h1.sz) ?_
      exact zw.t (by decide) (zw.s (by rw [if_pos rfl]; rfl))
    | some M =>
      refine zw.f (fun q => nn M (g2 M rfl) q.symm) (zw.s ?_)
      rw [if_neg (fun q => by cases q)]
      rfl
  | some L =>
    have hl := g1 L rfl
    cases o2 with
    | none =>
      refine zw.f (fun q => nn L hl q) (zw.s ?_)
      rw [if_neg (fun q => by cases q)]
      rfl
    | some M =>
      have hm := g2 M rfl
      by_cases hlen : L.length = M.length
      · refine zw.t (by show nI L.length = nI M.length; rw [hlen]) ?_
        unfold lX8_areAlike_22
        refine zw.loop (fun m y => ∃ k, k + m = L.length ∧ y = ((K, iv, rv, lv), b, nI s, nI k) ∧ ∀ j, j < k → L.getD j 0 = M.getD j 0) ?_ N L.length _ (by omega) ⟨0, by omega, rfl, fun j hj => by omega⟩
        rintro m ⟨S, x0, x1, x2⟩ Kc ⟨k, hk, hy, g⟩ ih
        cases hy
        dsimp only
        unfold fX8_areAlike_22
        refine zw.e (zgr_at hL.o hL.r_size) ?_
        refine zw.e (zil_v (x := nI L.length) hL.k_size rfl (by omega) (by decide) h1.1) ?_
        by_cases hm0 : m = 0
        · refine zw.t (nI_le (by omega) (by omega)) (zw.s ?_)
          have : L = M := by
            apply List.ext_getElem hlen
            intro j hj1 hj2
            have := g j (by omega)
            simpa [List.getD_eq_getElem?_getD, List.getElem?_eq_getElem hj1, List.getElem?_eq_getElem hj2] using this
          rw [this, if_pos rfl]
          rfl
        · refine zw.f (nI_ge (show k < L.length by omega) (by omega)) ?_
          refine zw.e (zgr_at hL.o hL.r_bytes) ?_
          refine zw.e (zil_v (j := 200 * s + k) hL.k_bytes (by rw [← nI_add, ← nI_mul]; rfl) (by omega) (by decide) (h1.2 k (by omega))) ?_
          refine zw.e (zgr_at hL.o hL.r_bytes) ?_
          refine zw.e (zil_v (j := 200 * (24 + s) + k) hL.k_bytes (by rw [hix, show (200 : Int32) = nI 200 from rfl, nI_mul, nI_add]) (by omega) (by decide) (h2.2 k (by omega))) ?_
          by_cases hb : L.getD k 0 = M.getD k 0
          · refine zw.t hb (ih (m - 1) _ (by omega) ⟨k + 1, by omega, by rw [nI_1 k], fun j hj => ?_⟩)
            by_cases e : j = k
            · rw [e]; exact hb
            · exact g j (by omega)
          · refine zw.f hb (zw.s ?_)
            rw [if_neg (fun q => hb (by cases q; rfl))]
            rfl
      · refine zw.f (fun q => hlen ((nI_eq (by omega) (by omega)).mp q)) (zw.s ?_)
        rw [if_neg (fun q => hlen (by cases q; rfl))]
        rfl
end M9
