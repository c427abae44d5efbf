/-! the class: cells that stay when others change -/
section C13
variable {b B n z : Nat} {K K' : Nat → Option (Nat × Nat)} {rv rv' : Nat → Nat → Option Nat} {l1 l2 wa wn : Nat}
/-- from lo on below hi nothing has changed -/
def smC (lo hi : Nat) (K K' : Nat → Option (Nat × Nat)) (rv rv' : Nat → Nat → Option Nat) : Prop := ∀ a, lo ≤ a → a < hi → K' a = K a ∧ ∀ j, rv' a j = rv a j
theorem smC.k {lo hi : Nat} (h : smC lo hi K K' rv rv') {a : Nat} (h1 : lo ≤ a) (h2 : a < hi) {v : Option (Nat × Nat)} (e : K a = v) : K' a = v := ((h a h1 h2).1).trans e
theorem smC.r {lo hi : Nat} (h : smC lo hi K K' rv rv') {a j : Nat} (h1 : lo ≤ a) (h2 : a < hi) {v : Option Nat} (e : rv a j = v) : rv' a j = v := ((h a h1 h2).2 j).trans e
theorem smC.sub {lo hi lo' hi' : Nat} (h : smC lo hi K K' rv rv') (h1 : lo ≤ lo') (h2 : hi' ≤ hi) : smC lo' hi' K K' rv rv' := fun a g1 g2 => h a (by omega) (by omega)
theorem cRow.sm {a m : Nat} (e : smC a (a + 2) K K' rv rv') (h : cRow K rv a m) : cRow K' rv' a m := ⟨e.k (by omega) (by omega) h.1, e.r (by omega) (by omega) h.2.1, e.k (by omega) (by omega) h.2.2⟩
theorem cTop.sm (e : smC b (b + 1) K K' rv rv') (h : cTop b K rv) : cTop b K' rv' := ⟨e.k (by omega) (by omega) h.1, e.r (by omega) (by omega) h.2.1, e.r (by omega) (by omega) h.2.2.1, e.r (by omega) (by omega) h.2.2.2.1, e.r (by omega) (by omega) h.2.2.2.2.1, e.r (by omega) (by omega) h.2.2.2.2.2.1, e.r (by omega) (by omega) h.2.2.2.2.2.2.1, e.r (by omega) (by omega) h.2.2.2.2.2.2.2.1, e.r (by omega) (by omega) h.2.2.2.2.2.2.2.2⟩
theorem cTex.sm (e : smC (b + 1) (b + 45) K K' rv rv') (h : cTex b K rv) : cTex b K' rv' := ⟨e.k (by omega) (by omega) h.1, e.r (by omega) (by omega) h.2.1, e.r (by omega) (by omega) h.2.2.1, cRow.sm (e.sub (by omega) (by omega)) h.2.2.2.1, e.k (by omega) (by omega) h.2.2.2.2.1, fun t ht => ⟨e.r (by omega) (by omega) (h.2.2.2.2.2 t ht).1, cRow.sm (e.sub (by omega) (by omega)) (h.2.2.2.2.2 t ht).2⟩⟩
theorem cPla.sm (e : smC (b + 45) (b + 54) K K' rv rv') (h : cPla b K rv) : cPla b K' rv' := ⟨e.k (by omega) (by omega) h.1, ⟨e.r (by omega) (by omega) h.2.1.1, e.k (by omega) (by omega) h.2.1.2⟩, ⟨e.r (by omega) (by omega) h.2.2.1.1, e.k (by omega) (by omega) h.2.2.1.2⟩, ⟨e.r (by omega) (by omega) h.2.2.2.1.1, e.k (by omega) (by omega) h.2.2.2.1.2⟩, ⟨e.r (by omega) (by omega) h.2.2.2.2.1.1, e.k (by omega) (by omega) h.2.2.2.2.1.2⟩, ⟨e.r (by omega) (by omega) h.2.2.2.2.2.1.1, e.k (by omega) (by omega) h.2.2.2.2.2.1.2⟩, ⟨e.r (by omega) (by omega) h.2.2.2.2.2.2.1.1, e.k (by omega) (by omega) h.2.2.2.2.2.2.1.2⟩, ⟨e.r (by omega) (by omega) h.2.2.2.2.2.2.2.1.1, e.k (by omega) (by omega) h.2.2.2.2.2.2.2.1.2⟩, ⟨e.r (by omega) (by omega) h.2.2.2.2.2.2.2.2.1, e.k (by omega) (by omega) h.2.2.2.2.2.2.2.2.2⟩⟩
theorem cWor.sm (e : smC (b + 54) (b + 63) K K' rv rv') (h : cWor b K rv) : cWor b K' rv' := ⟨e.k (by omega) (by omega) h.1, fun t ht => ⟨e.r (by omega) (by omega) (h.2 t ht).1, e.k (by omega) (by omega) (h.2 t ht).2⟩⟩
theorem cBui.sm (e : smC B (B + 53) K K' rv rv') (h : cBui b B K rv) : cBui b B K' rv' := ⟨e.k (by omega) (by omega) h.1, e.r (by omega) (by omega) h.2.1, e.r (by omega) (by omega) h.2.2.1, ⟨e.r (by omega) (by omega) h.2.2.2.1.1, e.k (by omega) (by omega) h.2.2.2.1.2⟩, ⟨e.r (by omega) (by omega) h.2.2.2.2.1.1, e.k (by omega) (by omega) h.2.2.2.2.1.2⟩, ⟨e.r (by omega) (by omega) h.2.2.2.2.2.1.1, e.k (by omega) (by omega) h.2.2.2.2.2.1.2⟩, ⟨e.r (by omega) (by omega) h.2.2.2.2.2.2.1.1, e.k (by omega) (by omega) h.2.2.2.2.2.2.1.2⟩, fun t ht => ⟨e.r (by omega) (by omega) (h.2.2.2.2.2.2.2 t ht).1, cRow.sm (e.sub (by omega) (by omega)) (h.2.2.2.2.2.2.2 t ht).2⟩⟩
theorem cAli.sm (e : smC (b + 169) (b + 176) K K' rv rv') (h : cAli b l1 l2 K rv) : cAli b l1 l2 K' rv' := by
  obtain ⟨h1, h2, h3, h4, h5, h6, h7, h8⟩ := h
  exact ⟨e.k (by omega) (by omega) h1, ⟨e.r (by omega) (by omega) h2.1, e.k (by omega) (by omega) h2.2⟩, ⟨e.r (by omega) (by omega) h3.1, e.k (by omega) (by omega) h3.2⟩, ⟨e.r (by omega) (by omega) h4.1, e.k (by omega) (by omega) h4.2⟩, ⟨e.r (by omega) (by omega) h5.1, e.k (by omega) (by omega) h5.2⟩, ⟨e.r (by omega) (by omega) h6.1, e.k (by omega) (by omega) h6.2⟩, ⟨e.r (by omega) (by omega) h7.1, e.k (by omega) (by omega) h7.2⟩, h8⟩
theorem cMak.sm (e : smC (b + 180) (b + 183) K K' rv rv') (h : cMak b K rv) : cMak b K' rv' := ⟨e.k (by omega) (by omega) h.1, ⟨e.r (by omega) (by omega) h.2.1.1, e.k (by omega) (by omega) h.2.1.2⟩, ⟨e.r (by omega) (by omega) h.2.2.1, e.k (by omega) (by omega) h.2.2.2⟩⟩
/-- a new table of ways at z -/
theorem cL.al {k : Nat} (h : cL b l1 l2 wa wn K rv) (hz : b + 183 ≤ z) (hk : k ≤ 32768) : cL b l1 l2 z k (fun a => if a = z then some (10, k) else K a) (zu (zro rv z (fun _ => none)) (b + 176) 0 (some z)) := by
  obtain ⟨h1, h2, h3, h4, h5, h6, h7, h8, h9⟩ := h
  have e : ∀ lo hi, hi ≤ b + 183 → (hi ≤ b + 176 ∨ b + 176 < lo) → smC lo hi K (fun a => if a = z then some (10, k) else K a) rv (zu (zro rv z (fun _ => none)) (b + 176) 0 (some z)) := fun lo hi g1 g2 a g3 g4 => ⟨if_neg (by omega), fun j => by
    rw [zu_o (by omega)]
    unfold zro
    rw [if_neg (by omega)]⟩
  refine ⟨h1.sm (e _ _ (by omega) (by omega)), h2.sm (e _ _ (by omega) (by omega)), h3.sm (e _ _ (by omega) (by omega)), h4.sm (e _ _ (by omega) (by omega)), h5.sm (e _ _ (by omega) (by omega)), h6.sm (e _ _ (by omega) (by omega)), h7.sm (e _ _ (by omega) (by omega)), ?_, h9.sm (e _ _ (by omega) (by omega))⟩
  obtain ⟨o1, o2, o3, o4, o5, o6⟩ := h8
  have er : ∀ j, j ≠ 0 → zu (zro rv z (fun _ => none)) (b + 176) 0 (some z) (b + 176) j = rv (b + 176) j := fun j hj => by
    rw [zu_o (by omega)]
    unfold zro
    rw [if_neg (by omega)]
  have ek : ∀ a, a < b + 183 → (fun a => if a = z then some (10, k) else K a) a = K a := fun a ha => if_neg (by omega)
  exact ⟨(ek _ (by omega)).trans o1, ⟨zu_s, if_pos rfl⟩, ⟨(er 1 (by decide)).trans o3.1, (ek _ (by omega)).trans o3.2⟩, ⟨(er 2 (by decide)).trans o4.1, (ek _ (by omega)).trans o4.2⟩, Or.inr hz, hk⟩
/-- the two rows of least changes change places -/
theorem cL.sw (h : cL b l1 l2 wa wn K rv) : cL b l2 l1 wa wn K (zu (zu rv (b + 169) 4 (some l2)) (b + 169) 5 (some l1)) := by
  obtain ⟨h1, h2, h3, h4, h5, h6, h7, h8, h9⟩ := h
  have er : ∀ a j, a ≠ b + 169 → zu (zu rv (b + 169) 4 (some l2)) (b + 169) 5 (some l1) a j = rv a j := fun a j ha => by rw [zu_o (fun q => ha q.1), zu_o (fun q => ha q.1)]
  have e : ∀ lo hi, (hi ≤ b + 169 ∨ b + 169 < lo) → smC lo hi K K rv (zu (zu rv (b + 169) 4 (some l2)) (b + 169) 5 (some l1)) := fun lo hi g2 a g3 g4 => ⟨rfl, fun j => er a j (by omega)⟩
  refine ⟨h1.sm (e _ _ (by omega)), h2.sm (e _ _ (by omega)), h3.sm (e _ _ (by omega)), h4.sm (e _ _ (by omega)), h5.sm (e _ _ (by omega)), h6.sm (e _ _ (by omega)), ?_, ?_, h9.sm (e _ _ (by omega))⟩
  · obtain ⟨g1, g2, g3, g4, g5, g6, g7, g8⟩ := h7
    have er2 : ∀ j, j < 4 → zu (zu rv (b + 169) 4 (some l2)) (b + 169) 5 (some l1) (b + 169) j = rv (b + 169) j := fun j hj => by rw [zu_o (by omega), zu_o (by omega)]
    exact ⟨g1, ⟨(er2 0 (by decide)).trans g2.1, g2.2⟩, ⟨(er2 1 (by decide)).trans g3.1, g3.2⟩, ⟨(er2 2 (by decide)).trans g4.1, g4.2⟩, ⟨(er2 3 (by decide)).trans g5.1, g5.2⟩, ⟨by rw [zu_o (by omega), zu_s], g7.2⟩, ⟨zu_s, g6.2⟩, by rcases g8 with q | q; exact Or.inr ⟨q.2, q.1⟩; exact Or.inl ⟨q.2, q.1⟩⟩
  · obtain ⟨o1, o2, o3, o4, o5, o6⟩ := h8
    exact ⟨o1, ⟨(er _ _ (by omega)).trans o2.1, o2.2⟩, ⟨(er _ _ (by omega)).trans o3.1, o3.2⟩, ⟨(er _ _ (by omega)).trans o4.1, o4.2⟩, o5, o6⟩
theorem cL.g (h : cL b l1 l2 wa wn K rv) : cG b K rv := ⟨h.1, h.2.1, h.2.2.1, h.2.2.2.1, h.2.2.2.2.1, h.2.2.2.2.2.1⟩
end C13
