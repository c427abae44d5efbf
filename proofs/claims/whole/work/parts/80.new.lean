/-! new objects -/
/-- ints of new cells: 0, but for the most of a row -/
def ze (vf : Nat → Int32) (lo hi : Nat) (S : zS) : Prop := ∀ a, lo ≤ a → a < hi → ∀ j, S.2.1 a j = if S.1 a = some (5, 0) ∧ j = 0 then vf a else 0
/-! rows as they are made: without their array -/
def cRoR (K : Nat → Option (Nat × Nat)) (rv : Nat → Nat → Option Nat) (a : Nat) : Prop := K a = some (5, 0) ∧ rv a 1 = some (a + 1) ∧ K (a + 1) = some (9, 0)
def cTexR (b : Nat) (K : Nat → Option (Nat × Nat)) (rv : Nat → Nat → Option Nat) : Prop := K (b + 1) = some (6, 0) ∧ rv (b + 1) 0 = some (b + 2) ∧ rv (b + 1) 1 = some (b + 4) ∧ cRoR K rv (b + 2) ∧ K (b + 4) = some (12, 20) ∧ ∀ t, t < 20 → rv (b + 4) t = some (b + 5 + 2 * t) ∧ cRoR K rv (b + 5 + 2 * t)
def cBuiR (b B : Nat) (K : Nat → Option (Nat × Nat)) (rv : Nat → Nat → Option Nat) : Prop := K B = some (1, 0) ∧ rv B 0 = some (b + 45) ∧ rv B 1 = some (b + 1) ∧ (rv B 2 = some (B + 1) ∧ K (B + 1) = some (9, 8)) ∧ (rv B 3 = some (B + 2) ∧ K (B + 2) = some (12, 24)) ∧ (rv B 4 = some (B + 3) ∧ K (B + 3) = some (11, 24)) ∧ (rv B 5 = some (B + 4) ∧ K (B + 4) = some (9, 256)) ∧ ∀ s, s < 24 → rv (B + 2) s = some (B + 5 + 2 * s) ∧ cRoR K rv (B + 5 + 2 * s)
def cLR (b l1 l2 wa wn : Nat) (K : Nat → Option (Nat × Nat)) (rv : Nat → Nat → Option Nat) : Prop := cTop b K rv ∧ cTexR b K rv ∧ cPla b K rv ∧ cWor b K rv ∧ cBuiR b (b + 63) K rv ∧ cBuiR b (b + 116) K rv ∧ cAli b l1 l2 K rv ∧ cOrd b wa wn K rv ∧ cMak b K rv
section CRR
variable {b B : Nat} {K K' : Nat → Option (Nat × Nat)} {rv rv' : Nat → Nat → Option Nat}
theorem cRoR.sm {a : Nat} (e : smC a (a + 2) K K' rv rv') (h : cRoR K rv a) : cRoR K' rv' a := ⟨e.k (by omega) (by omega) h.1, e.r (by omega) (by omega) h.2.1, e.k (by omega) (by omega) h.2.2⟩
theorem cTexR.sm (e : smC (b + 1) (b + 45) K K' rv rv') (h : cTexR b K rv) : cTexR b K' rv' := ⟨e.k (by omega) (by omega) h.1, e.r (by omega) (by omega) h.2.1, e.r (by omega) (by omega) h.2.2.1, cRoR.sm (e.sub (by omega) (by omega)) h.2.2.2.1, e.k (by omega) (by omega) h.2.2.2.2.1, fun t ht => ⟨e.r (by omega) (by omega) (h.2.2.2.2.2 t ht).1, cRoR.sm (e.sub (by omega) (by omega)) (h.2.2.2.2.2 t ht).2⟩⟩
theorem cBuiR.sm (e : smC B (B + 53) K K' rv rv') (h : cBuiR b B K rv) : cBuiR b B K' rv' := ⟨e.k (by omega) (by omega) h.1, e.r (by omega) (by omega) h.2.1, e.r (by omega) (by omega) h.2.2.1, ⟨e.r (by omega) (by omega) h.2.2.2.1.1, e.k (by omega) (by omega) h.2.2.2.1.2⟩, ⟨e.r (by omega) (by omega) h.2.2.2.2.1.1, e.k (by omega) (by omega) h.2.2.2.2.1.2⟩, ⟨e.r (by omega) (by omega) h.2.2.2.2.2.1.1, e.k (by omega) (by omega) h.2.2.2.2.2.1.2⟩, ⟨e.r (by omega) (by omega) h.2.2.2.2.2.2.1.1, e.k (by omega) (by omega) h.2.2.2.2.2.2.1.2⟩, fun t ht => ⟨e.r (by omega) (by omega) (h.2.2.2.2.2.2.2 t ht).1, cRoR.sm (e.sub (by omega) (by omega)) (h.2.2.2.2.2.2.2 t ht).2⟩⟩
end CRR
/-- cells below z stay, but for the references of x0 -/
def eX (x0 z : Nat) (S S' : zS) : Prop := ∀ a, a < z → S'.1 a = S.1 a ∧ (∀ j, S'.2.1 a j = S.2.1 a j) ∧ (a ≠ x0 → ∀ j, S'.2.2.1 a j = S.2.2.1 a j)
theorem eX.rf {x0 z : Nat} {S : zS} : eX x0 z S S := fun _ _ => ⟨rfl, fun _ => rfl, fun _ _ => rfl⟩
theorem eX.tr {x0 z z' : Nat} {S S1 S2 : zS} (h1 : eX x0 z S S1) (h2 : eX x0 z' S1 S2) (hz : z ≤ z') : eX x0 z S S2 := fun a ha => by
  obtain ⟨p1, p2, p3⟩ := h1 a ha
  obtain ⟨q1, q2, q3⟩ := h2 a (by omega)
  exact ⟨q1.trans p1, fun j => (q2 j).trans (p2 j), fun hn j => (q3 hn j).trans (p3 hn j)⟩
theorem eX.lo {x0 x1 z z' : Nat} {S S' : zS} (h : eX x1 z' S S') (hz : z ≤ z') (hx : z ≤ x1) : eX x0 z S S' := fun a ha => by
  obtain ⟨p1, p2, p3⟩ := h a (by omega)
  exact ⟨p1, p2, fun _ => p3 (by omega)⟩
/-- an object with its arrays: field, kind, length of each; e0 tells what they hold -/
def aS (x0 c z0 : Nat) (L : List (Nat × Nat × Nat)) (e0 : Nat → Nat → Int32) (S0 S : zS) : Prop := S.1 x0 = some (c, 0) ∧ x0 < z0 ∧ (∀ i p, L[i]? = some p → S.2.2.1 x0 p.1 = some (z0 + i) ∧ S.1 (z0 + i) = some p.2) ∧ eX x0 z0 S0 S ∧ ∀ i, i < L.length → ∀ j, S.2.1 (z0 + i) j = e0 i j
theorem aS.start {x0 c z0 : Nat} {e0 : Nat → Nat → Int32} {S : zS} (h : S.1 x0 = some (c, 0)) (hx : x0 < z0) : aS x0 c z0 [] e0 S S := ⟨h, hx, fun i p e => by simp at e, eX.rf, fun i hi => absurd hi (Nat.not_lt_zero i)⟩
theorem zlg_x {x : Int32} {n : Nat} (hx : x = nI n) (h : n ≤ 65536) : zlg x = some n := by rw [hx]; exact zlg_nI h
theorem aS.add {x0 c f t n z0 : Nat} {L : List (Nat × Nat × Nat)} {e0 : Nat → Nat → Int32} {S0 S : zS} {iv' : Nat → Nat → Int32} (hA : aS x0 c z0 L e0 S0 S) (hf : ∀ p ∈ L, p.1 ≠ f) (hi : ∀ a j, a ≠ z0 + L.length → iv' a j = S.2.1 a j) (he : ∀ j, iv' (z0 + L.length) j = e0 L.length j) {lv' : Nat → Nat → Int64} : aS x0 c z0 (L ++ [(f, t, n)]) e0 S0 ((fun a => if a = z0 + L.length then some (t, n) else S.1 a), iv', zu (zro S.2.2.1 (z0 + L.length) (fun _ => none)) x0 f (some (z0 + L.length)), lv') := by
  obtain ⟨h1, h2, h3, h4, h5⟩ := hA
  refine ⟨?_, h2, fun i p e => ?_, fun a ha => ⟨?_, fun j => ?_, fun hn j => ?_⟩, fun i hl j => ?_⟩
  · show (if x0 = z0 + L.length then _ else S.1 x0) = _
    rw [if_neg (by omega)]; exact h1
  · by_cases hl : i < L.length
    · rw [List.getElem?_append_left hl] at e
      have hm : p ∈ L := List.mem_of_getElem? e
      obtain ⟨g1, g2⟩ := h3 i p e
      refine ⟨?_, ?_⟩
      · show zu (zro S.2.2.1 (z0 + L.length) (fun _ => none)) x0 f (some (z0 + L.length)) x0 p.1 = _
        rw [zu_o (fun q => hf p hm q.2), zro_ne (by omega)]
        exact g1
      · show (if z0 + i = z0 + L.length then _ else S.1 (z0 + i)) = _
        rw [if_neg (by omega)]
        exact g2
    · rw [List.getElem?_append_right (by omega)] at e
      have hi0 : i - L.length = 0 := by
        rcases Nat.eq_zero_or_pos (i - L.length) with q | q
        · exact q
        · rw [List.getElem?_eq_none (by simp; omega)] at e; cases e
      rw [hi0] at e
      cases e
      have : i = L.length := by omega
      subst this
      exact ⟨zu_s, if_pos rfl⟩
  · show (if a = z0 + L.length then _ else S.1 a) = _
    rw [if_neg (by omega)]; exact (h4 a ha).1
  · show iv' a j = _
    rw [hi a j (by omega)]; exact (h4 a ha).2.1 j
  · show zu (zro S.2.2.1 (z0 + L.length) (fun _ => none)) x0 f (some (z0 + L.length)) a j = _
    rw [zu_o (fun q => hn q.1), zro_ne (by omega)]
    exact (h4 a ha).2.2 hn j
  · rw [List.length_append] at hl
    simp only [List.length_cons, List.length_nil] at hl
    show iv' (z0 + i) j = _
    by_cases e : i = L.length
    · rw [e]; exact he j
    · rw [hi _ j (by omega)]; exact h5 i (by omega) j
/-- one array more -/
theorem al_step {β : Type} {P : β → Prop} {MC MS q w x0 c f t z z0 n : Nat} {x : Int32} {L : List (Nat × Nat × Nat)} {e0 : Nat → Nat → Int32} {S S0 : zS} {F : Nat → zS → Option β} (hA : aS x0 c z0 L e0 S0 S) (hx : x = nI n) (hz : z = z0 + L.length) (hn : n ≤ 65536) (hb : q + 1 ≤ MC ∧ w + n ≤ MS) (hf : ∀ p ∈ L, p.1 ≠ f) (he : ∀ j, e0 L.length j = 0) (k : ∀ S', aS x0 c z0 (L ++ [(f, t, n)]) e0 S0 S' → zw (F n S') P) : zw ((zlg x).bind fun k1 => (zbud MC MS q w 1 k1).bind fun _ => zlet (zad S z t k1) fun S3 => (zpr S3 x0 c f z).bind (F k1)) P := by
  subst hz
  refine zw.e (zlg_x hx hn) ?_
  refine zw.e (show zbud MC MS q w 1 n = some () from if_pos hb) ?_
  unfold zlet zad
  have ekk : (fun a => if a = z0 + L.length then some (t, n) else S.1 a) x0 = some (c, 0) := by
    dsimp only
    rw [if_neg (by have := hA.2.1; omega)]
    exact hA.1
  refine zw.e (zpr_at ekk) ?_
  exact k _ (hA.add hf (fun a j ha => by rw [zro_ne ha]) (fun j => by rw [he j]; exact congrFun zro_eq j))
theorem zfin_at {α : Type} {MC MS q w : Nat} {x : α} (h : q ≤ MC ∧ w ≤ MS) : zfin MC MS q w x = some x := if_pos h
theorem aS.at {x0 c z0 : Nat} {L : List (Nat × Nat × Nat)} {e0 : Nat → Nat → Int32} {S0 S : zS} (h : aS x0 c z0 L e0 S0 S) (i : Nat) {p : Nat × Nat × Nat} (e : L[i]? = some p) : S.2.2.1 x0 p.1 = some (z0 + i) ∧ S.1 (z0 + i) = some p.2 := h.2.2.1 i p e
/-- a row: the object at z, an array of no length behind it -/
theorem row_new {N z n : Nat} {vf : Nat → Int32} {x : Int32} {S : zS} (hx : x = nI n) (hn : n ≤ 65536) (hv : vf z = nI n) : zw (rX5_init N 1 0 (zad S z 5 0) (z + 1) 0 0 z x) (fun q => q.2 = z + 2 ∧ eX z z S q.1 ∧ cRoR q.1.1 q.1.2.2.1 z ∧ ze vf z (z + 2) q.1) := by
  have hmx : zmx x 0 = nI n := by
    unfold zmx
    rw [hx]
    by_cases h : nI n < 0
    · exact absurd h (nI_pos (by omega))
    · rw [if_neg h]
  have h0 : aS z 5 (z + 1) [] (fun _ _ => 0) (zad S z 5 0) (zad S z 5 0) := aS.start (if_pos rfl) (by omega)
  unfold rX5_init rX5_init_0
  refine al_step (n := 0) h0 rfl rfl (by decide) ⟨by omega, by omega⟩ (fun p hp => by cases hp) (fun j => rfl) (fun S1 h1 => ?_)
  refine zw.e (show zbud 1 0 (0 + 1) (0 + 0) 0 0 = some () from by decide) ?_
  rw [hmx]
  refine zw.e (zpi_s h1.1) ?_
  rw [zfin_at ⟨by omega, by omega⟩]
  obtain ⟨p1, p2⟩ := h1.at 0 rfl
  refine zw.s ⟨rfl, fun a ha => ?_, ⟨h1.1, p1, p2⟩, fun a g1 g2 j => ?_⟩
  · obtain ⟨p1, p2, p3⟩ := h1.2.2.2.1 a (by omega)
    refine ⟨p1.trans (if_neg (by omega)), fun j => ?_, fun hn j => (p3 hn j).trans ?_⟩
    · show zu S1.2.1 z 0 (nI n) a j = _
      rw [zu_o (by omega), p2 j]
      show zro S.2.1 z (fun _ => 0) a j = _
      rw [zro_ne (by omega)]
    · show zro S.2.2.1 z (fun _ => none) a j = _
      rw [zro_ne (by omega)]
  · show zu S1.2.1 z 0 (nI n) a j = if S1.1 a = some (5, 0) ∧ j = 0 then vf a else 0
    by_cases e : a = z
    · subst e
      rw [zu_eq, h1.1]
      by_cases ej : j = 0
      · rw [if_pos ej, if_pos ⟨rfl, ej⟩, hv]
      · rw [if_neg ej, if_neg (fun q => ej q.2), (h1.2.2.2.1 a (by omega)).2.1 j]
        exact congrFun (zro_eq (f := S.2.1) (a := a) (g := fun _ => (0 : Int32))) j
    · have e2 : a = z + 1 + 0 := by omega
      have e3 : S1.1 a = some (9, 0) := by rw [e2]; exact p2
      rw [zu_o (fun q => e q.1), e3, if_neg (fun q => by cases q.1), e2]
      exact h1.2.2.2.2 0 (by simp) j
/-- a row, put into an array of rows -/
theorem row_put {β : Type} {P : β → Prop} {N z n x0 c f ar len t MC MS q w : Nat} {vf : Nat → Int32} {x i : Int32} {S : zS} {F : zS → Nat → Option β} (hx : x = nI n) (hn : n ≤ 65536) (hv : vf z = nI n) (hi : i = nI t) (ht : t < len) (hl : len ≤ 65536) (h1 : S.1 x0 = some (c, 0)) (h2 : S.2.2.1 x0 f = some ar) (h3 : S.1 ar = some (12, len)) (ha : ar < z) (hb : q + 2 ≤ MC ∧ w + 3 ≤ MS)
    (k : ∀ S', S'.1 z = some (5, 0) → eX ar z S S' → cRoR S'.1 S'.2.2.1 z → (∀ j, S'.2.2.1 ar j = if j = t then some z else S.2.2.1 ar j) → ze vf z (z + 2) S' → zw (F S' (z + 2)) P) :
    zw ((zgr S x0 c f).bind fun v1 => (zbud MC MS q w 1 3).bind fun _ => zlet (zad S z 5 0) fun S3 => (zbud MC MS (q + 1) (w + 3) 1 0).bind fun _ => zb2 (rX5_init N 1 0 S3 (z + 1) 0 0 z x) fun S5 z6 => (zas S5 v1 i z).bind fun S7 => F S7 z6) P := by
  have hgr : zgr S x0 c f = some ar := by
    unfold zgr
    rw [h1]
    exact (if_pos rfl).trans h2
  refine zw.e hgr ?_
  refine zw.e (show zbud MC MS q w 1 3 = some () from if_pos ⟨by omega, by omega⟩) ?_
  unfold zlet
  refine zw.e (show zbud MC MS (q + 1) (w + 3) 1 0 = some () from if_pos ⟨by omega, by omega⟩) ?_
  refine zw.c2 (row_new hx hn hv) ?_
  rintro S5 z6 ⟨rfl, e5, r5, g5⟩
  dsimp only at e5 r5 g5
  have har : S5.1 ar = some (12, len) := ((e5 ar ha).1).trans h3
  have hok : zok S5 ar 12 i = true := by
    rw [hi]
    unfold zok
    rw [har]
    simp [nI_pos (show t < 2 ^ 31 by omega), nI_clamp (show t < 2 ^ 31 by omega), ht]
  have hct : i.toNatClampNeg = t := by rw [hi]; exact nI_clamp (by omega)
  have hza : zas S5 ar i z = some (S5.1, S5.2.1, zu S5.2.2.1 ar t (some z), S5.2.2.2) := by
    unfold zas
    rw [hct, if_pos ⟨hok, by rw [r5.1]; rfl⟩]
  refine zw.e hza ?_
  refine k _ r5.1 (fun a ha2 => ⟨(e5 a ha2).1, (e5 a ha2).2.1, fun hn j => ?_⟩) ⟨r5.1, ?_, r5.2.2⟩ (fun j => ?_) g5
  · show zu S5.2.2.1 ar t (some z) a j = _
    rw [zu_o (fun q => hn q.1)]
    exact (e5 a ha2).2.2 (by omega) j
  · show zu S5.2.2.1 ar t (some z) z 1 = _
    rw [zu_o (by omega)]
    exact r5.2.1
  · show zu S5.2.2.1 ar t (some z) ar j = _
    rw [zu_eq]
    by_cases e : j = t
    · rw [if_pos e, if_pos e]
    · rw [if_neg e, if_neg e]
      exact (e5 ar ha).2.2 (by omega) j
/-- what stays of cells, out of eX -/
theorem eX.sm {x0 z lo hi : Nat} {S S' : zS} (h : eX x0 z S S') (hz : hi ≤ z) (hx : x0 < lo ∨ hi ≤ x0) : smC lo hi S.1 S'.1 S.2.2.1 S'.2.2.1 := fun a g1 g2 => ⟨(h a (by omega)).1, (h a (by omega)).2.2 (by omega)⟩
