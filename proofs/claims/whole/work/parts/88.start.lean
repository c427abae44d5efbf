/-! the start: the virtual store beside the real one -/
/-- where rows lie in the class -/
def rwk (k : Nat) : Bool := decide (k = 2 ∨ (5 ≤ k ∧ k < 45 ∧ k % 2 = 1) ∨ (68 ≤ k ∧ k < 116 ∧ k % 2 = 0) ∨ (121 ≤ k ∧ k < 169 ∧ k % 2 = 1))
theorem rwk_t {k : Nat} : rwk k = true ↔ (k = 2 ∨ (5 ≤ k ∧ k < 45 ∧ k % 2 = 1) ∨ (68 ≤ k ∧ k < 116 ∧ k % 2 = 0) ∨ (121 ≤ k ∧ k < 169 ∧ k % 2 = 1)) := decide_eq_true_iff
def rws (h : Nat) : List Nat := ((List.range 183).filter rwk).map fun k => h + k
theorem rws_mem {h a : Nat} : a ∈ rws h ↔ ∃ k, k < 183 ∧ rwk k = true ∧ a = h + k := by
  unfold rws
  simp only [List.mem_map, List.mem_filter, List.mem_range]
  constructor
  · rintro ⟨k, ⟨h1, h2⟩, e⟩
    exact ⟨k, h1, h2, e.symm⟩
  · rintro ⟨k, h1, h2, e⟩
    exact ⟨k, ⟨h1, h2⟩, e.symm⟩
theorem rws_len (h : Nat) : (rws h).length = 69 := by
  unfold rws
  rw [List.length_map]
  decide +kernel
theorem rws_at {h k : Nat} (hk : rwk k = true) : h + k ∈ rws h := rws_mem.mpr ⟨k, by have := rwk_t.mp hk; omega, hk, rfl⟩
theorem rws_not {h k : Nat} (hk : ¬ rwk k = true) : h + k ∉ rws h := fun q => by
  obtain ⟨j, h1, h2, e⟩ := rws_mem.mp q
  have : k = j := by omega
  rw [this] at hk
  exact hk h2
theorem zn_at {h k : Nat} (hk : k = 0 ∨ rwk (k - 1) = false) : zn (rws h) (h + k) := fun a ha e => by
  obtain ⟨j, h1, h2, rfl⟩ := rws_mem.mp ha
  have : j = k - 1 := by omega
  rw [this] at h2
  rcases hk with q | q
  · omega
  · rw [q] at h2; cases h2
/-- the most of the row whose array is at a -/
def mst (h a : Nat) : Nat := if a < h + 63 then 60 else 200
/-- the virtual store of a new class -/
def vst (h : Nat) (S : zS) : zS := (fun a => if h < a ∧ rwk (a - h - 1) = true then some (9, mst h a) else S.1 a, fun a j => if a ∈ rws h then 0 else S.2.1 a j, fun a j => if a ∈ rws h then (if j = 0 then some (a + 1) else none) else S.2.2.1 a j, S.2.2.2)
section ST
variable {h : Nat} {S : zS}
theorem vst_k {k : Nat} (hk : k = 0 ∨ rwk (k - 1) = false) : (vst h S).1 (h + k) = S.1 (h + k) := by
  show (if h < h + k ∧ rwk (h + k - h - 1) = true then some (9, mst h (h + k)) else S.1 (h + k)) = _
  refine if_neg fun q => ?_
  have e : h + k - h - 1 = k - 1 := by omega
  rw [e] at q
  rcases hk with g | g
  · omega
  · rw [g] at q; cases q.2
theorem vst_b {k : Nat} (hk : rwk k = true) : (vst h S).1 (h + k + 1) = some (9, mst h (h + k + 1)) := by
  show (if h < h + k + 1 ∧ rwk (h + k + 1 - h - 1) = true then some (9, mst h (h + k + 1)) else S.1 (h + k + 1)) = _
  have e : h + k + 1 - h - 1 = k := by omega
  rw [e, if_pos ⟨by omega, hk⟩]
theorem vst_r {k j : Nat} (hk : rwk k = false) : (vst h S).2.2.1 (h + k) j = S.2.2.1 (h + k) j := if_neg (rws_not (by rw [hk]; decide))
theorem vst_i {k j : Nat} (hk : rwk k = false) : (vst h S).2.1 (h + k) j = S.2.1 (h + k) j := if_neg (rws_not (by rw [hk]; decide))
theorem vst_row {k n : Nat} (hk : rwk k = true) (hr : cRoR S.1 S.2.2.1 (h + k)) (hn : mst h (h + k + 1) = n) : cRow (vst h S).1 (vst h S).2.2.1 (h + k) n := by
  have hk' := rwk_t.mp hk
  refine ⟨?_, ?_, ?_⟩
  · rw [vst_k (Or.inr (by unfold rwk; rw [decide_eq_false (by omega)]))]
    exact hr.1
  · show (if h + k ∈ rws h then _ else _) = _
    rw [if_pos (rws_at hk), if_pos rfl]
  · rw [vst_b hk, hn]
theorem vst_L {l1 l2 wa wn : Nat} (hl : (l1 = h + 174 ∧ l2 = h + 175)) (hw : wa = h + 177) (hL : cLR h l1 l2 wa wn S.1 S.2.2.1) : cL h l1 l2 wa wn (vst h S).1 (vst h S).2.2.1 := by
  obtain ⟨rfl, rfl⟩ := hl
  subst hw
  obtain ⟨t1, t2, t3, t4, t5, t6, t7, t8, t9⟩ := hL
  have kk : ∀ {k : Nat} {v : Option (Nat × Nat)}, (k = 0 ∨ rwk (k - 1) = false) → S.1 (h + k) = v → (vst h S).1 (h + k) = v := fun hk e => (vst_k hk).trans e
  have rr : ∀ {k j : Nat} {v : Option Nat}, rwk k = false → S.2.2.1 (h + k) j = v → (vst h S).2.2.1 (h + k) j = v := fun hk e => (vst_r hk).trans e
  have bui : ∀ B, (B = 63 ∨ B = 116) → cBuiR h (h + B) S.1 S.2.2.1 → cBui h (h + B) (vst h S).1 (vst h S).2.2.1 := fun B hB hb => by
    obtain ⟨u1, u2, u3, u4, u5, u6, u7, u8⟩ := hb
    have f : ∀ i, i < 5 → rwk (B + i) = false ∧ rwk (B + i - 1) = false := fun i hi => by
      rcases hB with rfl | rfl
      · exact ⟨decide_eq_false (by omega), decide_eq_false (by omega)⟩
      · exact ⟨decide_eq_false (by omega), decide_eq_false (by omega)⟩
    refine ⟨kk (Or.inr (f 0 (by omega)).2) u1, rr (f 0 (by omega)).1 u2, rr (f 0 (by omega)).1 u3, ⟨rr (f 0 (by omega)).1 u4.1, kk (k := B + 1) (Or.inr (f 1 (by omega)).2) u4.2⟩, ⟨rr (f 0 (by omega)).1 u5.1, kk (k := B + 2) (Or.inr (f 2 (by omega)).2) u5.2⟩, ⟨rr (f 0 (by omega)).1 u6.1, kk (k := B + 3) (Or.inr (f 3 (by omega)).2) u6.2⟩, ⟨rr (f 0 (by omega)).1 u7.1, kk (k := B + 4) (Or.inr (f 4 (by omega)).2) u7.2⟩, fun s hs => ?_⟩
    obtain ⟨w1, w2⟩ := u8 s hs
    have e : h + B + 5 + 2 * s = h + (B + 5 + 2 * s) := by omega
    rw [e] at w1 w2 ⊢
    refine ⟨rr (k := B + 2) (f 2 (by omega)).1 w1, vst_row (rwk_t.mpr (by omega)) w2 ?_⟩
    unfold mst
    rw [if_neg (by omega)]
  obtain ⟨x1, x2, x3, x4, x5, x6⟩ := t2
  obtain ⟨p1, p2, p3, p4, p5, p6, p7, p8, p9⟩ := t3
  obtain ⟨a1, a2, a3, a4, a5, a6, a7, a8⟩ := t7
  obtain ⟨o1, o2, o3, o4, o5, o6⟩ := t8
  obtain ⟨m1, m2, m3⟩ := t9
  obtain ⟨q1, q2, q3, q4, q5, q6, q7, q8, q9⟩ := t1
  refine ⟨⟨kk (k := 0) (Or.inl rfl) q1, rr (k := 0) (by decide) q2, rr (k := 0) (by decide) q3, rr (k := 0) (by decide) q4, rr (k := 0) (by decide) q5, rr (k := 0) (by decide) q6, rr (k := 0) (by decide) q7, rr (k := 0) (by decide) q8, rr (k := 0) (by decide) q9⟩, ⟨kk (k := 1) (by decide) x1, rr (k := 1) (by decide) x2, rr (k := 1) (by decide) x3, vst_row (k := 2) (by decide) x4 (if_pos (by omega)), kk (k := 4) (by decide) x5, fun t ht => ?_⟩, ⟨kk (k := 45) (by decide) p1, ⟨rr (k := 45) (by decide) p2.1, kk (k := 46) (by decide) p2.2⟩, ⟨rr (k := 45) (by decide) p3.1, kk (k := 47) (by decide) p3.2⟩, ⟨rr (k := 45) (by decide) p4.1, kk (k := 48) (by decide) p4.2⟩, ⟨rr (k := 45) (by decide) p5.1, kk (k := 49) (by decide) p5.2⟩, ⟨rr (k := 45) (by decide) p6.1, kk (k := 50) (by decide) p6.2⟩, ⟨rr (k := 45) (by decide) p7.1, kk (k := 51) (by decide) p7.2⟩, ⟨rr (k := 45) (by decide) p8.1, kk (k := 52) (by decide) p8.2⟩, ⟨rr (k := 45) (by decide) p9.1, kk (k := 53) (by decide) p9.2⟩⟩, ⟨kk (k := 54) (by decide) t4.1, fun r hr => ?_⟩, bui 63 (Or.inl rfl) t5, bui 116 (Or.inr rfl) t6, ⟨kk (k := 169) (by decide) a1, ⟨rr (k := 169) (by decide) a2.1, kk (k := 170) (by decide) a2.2⟩, ⟨rr (k := 169) (by decide) a3.1, kk (k := 171) (by decide) a3.2⟩, ⟨rr (k := 169) (by decide) a4.1, kk (k := 172) (by decide) a4.2⟩, ⟨rr (k := 169) (by decide) a5.1, kk (k := 173) (by decide) a5.2⟩, ⟨rr (k := 169) (by decide) a6.1, kk (k := 174) (by decide) a6.2⟩, ⟨rr (k := 169) (by decide) a7.1, kk (k := 175) (by decide) a7.2⟩, a8⟩, ⟨kk (k := 176) (by decide) o1, ⟨rr (k := 176) (by decide) o2.1, kk (k := 177) (by decide) o2.2⟩, ⟨rr (k := 176) (by decide) o3.1, kk (k := 178) (by decide) o3.2⟩, ⟨rr (k := 176) (by decide) o4.1, kk (k := 179) (by decide) o4.2⟩, o5, o6⟩, ⟨kk (k := 180) (by decide) m1, ⟨rr (k := 180) (by decide) m2.1, kk (k := 181) (by decide) m2.2⟩, ⟨rr (k := 180) (by decide) m3.1, kk (k := 182) (by decide) m3.2⟩⟩⟩
  · obtain ⟨w1, w2⟩ := x6 t ht
    have e : h + 5 + 2 * t = h + (5 + 2 * t) := by omega
    rw [e] at w1 w2 ⊢
    refine ⟨rr (k := 4) (by decide) w1, vst_row (rwk_t.mpr (by omega)) w2 ?_⟩
    unfold mst
    rw [if_pos (by omega)]
  · obtain ⟨w1, w2⟩ := t4.2 r hr
    have e : h + 55 + r = h + (55 + r) := by omega
    rw [e] at w1 w2 ⊢
    exact ⟨rr (k := 54) (by decide) w1, kk (Or.inr (decide_eq_false (by omega))) w2⟩
/-- every cell of a new class that is no row and no row's array -/
def kO (h : Nat) (S : zS) (k : Nat) : Prop := ∃ c n, S.1 (h + k) = some (c, n) ∧ c ≠ 5 ∧ ∀ j v, zrel c n j → S.2.2.1 (h + k) j = some v → zn (rws h) v
theorem kO.ar {k t n : Nat} (e : S.1 (h + k) = some (t, n)) (ht : t = 9 ∨ t = 10 ∨ t = 11) : kO h S k := ⟨t, n, e, by omega, fun j v g _ => by
  rcases g with ⟨g, -⟩ | ⟨g, -⟩ <;> omega⟩
theorem kO.ob {k c : Nat} (L : List Nat) (e : S.1 (h + k) = some (c, 0)) (hc : c ≠ 5 ∧ c < 9) (hL : ∀ j, (zF c)[j]? = some true → j < L.length ∧ S.2.2.1 (h + k) j = some (h + L.getD j 0)) (hz : ∀ m ∈ L, m = 0 ∨ rwk (m - 1) = false) : kO h S k := ⟨c, 0, e, hc.1, fun j v g q => by
  rcases g with ⟨-, g⟩ | ⟨g, -⟩
  · obtain ⟨g1, g2⟩ := hL j g
    rw [g2] at q
    cases q
    refine zn_at (hz _ ?_)
    rw [List.getD_eq_getElem?_getD, List.getElem?_eq_getElem g1]
    exact List.getElem_mem g1
  · omega⟩
theorem kO_all {wn : Nat} (hL : cLR h (h + 174) (h + 175) (h + 177) wn S.1 S.2.2.1) {k : Nat} (hk : k < 183) (h1 : rwk k = false) (h2 : k = 0 ∨ rwk (k - 1) = false) : kO h S k := by
  have g1 : ¬ (k = 2 ∨ (5 ≤ k ∧ k < 45 ∧ k % 2 = 1) ∨ (68 ≤ k ∧ k < 116 ∧ k % 2 = 0) ∨ (121 ≤ k ∧ k < 169 ∧ k % 2 = 1)) := of_decide_eq_false h1
  have g2 : k = 0 ∨ ¬ (k - 1 = 2 ∨ (5 ≤ k - 1 ∧ k - 1 < 45 ∧ (k - 1) % 2 = 1) ∨ (68 ≤ k - 1 ∧ k - 1 < 116 ∧ (k - 1) % 2 = 0) ∨ (121 ≤ k - 1 ∧ k - 1 < 169 ∧ (k - 1) % 2 = 1)) := h2.imp id fun q => of_decide_eq_false q
  obtain ⟨⟨q1, q2, q3, q4, q5, q6, q7, q8, q9⟩, ⟨x1, x2, x3, x4, x5, x6⟩, ⟨p1, p2, p3, p4, p5, p6, p7, p8, p9⟩, t4, ⟨u1, u2, u3, u4, u5, u6, u7, u8⟩, ⟨v1, v2, v3, v4, v5, v6, v7, v8⟩, ⟨a1, a2, a3, a4, a5, a6, a7, a8⟩, ⟨o1, o2, o3, o4, o5, o6⟩, ⟨m1, m2, m3⟩⟩ := hL
  have zf : ∀ {c j : Nat} {m : Nat}, (zF c).length = m → (zF c)[j]? = some true → j < m := fun e q => by
    rw [← e]
    exact (List.getElem?_eq_some_iff.mp q).1
  have hcase : k = 0 ∨ k = 1 ∨ k = 4 ∨ k = 45 ∨ (46 ≤ k ∧ k < 54) ∨ k = 54 ∨ (55 ≤ k ∧ k < 63) ∨ k = 63 ∨ k = 64 ∨ k = 65 ∨ k = 66 ∨ k = 67 ∨ k = 116 ∨ k = 117 ∨ k = 118 ∨ k = 119 ∨ k = 120 ∨ k = 169 ∨ (170 ≤ k ∧ k < 176) ∨ k = 176 ∨ k = 177 ∨ k = 178 ∨ k = 179 ∨ k = 180 ∨ k = 181 ∨ k = 182 := by omega
  rcases hcase with rfl | rfl | rfl | rfl | hr | rfl | hr | rfl | rfl | rfl | rfl | rfl | rfl | rfl | rfl | rfl | rfl | rfl | hr | rfl | rfl | rfl | rfl | rfl | rfl | rfl
  · refine kO.ob [1, 45, 54, 63, 116, 169, 176, 180] q1 (by decide) (fun j hj => ?_) (by decide)
    have := zf (m := 8) rfl hj
    match j, this with
    | 0, _ => exact ⟨by decide, q2⟩
    | 1, _ => exact ⟨by decide, q3⟩
    | 2, _ => exact ⟨by decide, q4⟩
    | 3, _ => exact ⟨by decide, q5⟩
    | 4, _ => exact ⟨by decide, q6⟩
    | 5, _ => exact ⟨by decide, q7⟩
    | 6, _ => exact ⟨by decide, q8⟩
    | 7, _ => exact ⟨by decide, q9⟩
  · refine kO.ob [2, 4] x1 (by decide) (fun j hj => ?_) (by decide)
    have := zf (m := 4) rfl hj
    match j, this with
    | 0, _ => exact ⟨by decide, x2⟩
    | 1, _ => exact ⟨by decide, x3⟩
    | 2, _ => cases hj
    | 3, _ => cases hj
  · refine ⟨12, 20, x5, by decide, fun j v g e => ?_⟩
    rcases g with ⟨g, -⟩ | ⟨-, g⟩
    · omega
    · rw [(x6 j g).1] at e
      cases e
      rw [show h + 5 + 2 * j = h + (5 + 2 * j) by omega]
      exact zn_at (Or.inr (decide_eq_false (by omega)))
  · refine kO.ob [46, 47, 48, 49, 50, 51, 52, 53] p1 (by decide) (fun j hj => ?_) (by decide)
    have := zf (m := 10) rfl hj
    match j, this with
    | 0, _ => exact ⟨by decide, p2.1⟩
    | 1, _ => exact ⟨by decide, p3.1⟩
    | 2, _ => exact ⟨by decide, p4.1⟩
    | 3, _ => exact ⟨by decide, p5.1⟩
    | 4, _ => exact ⟨by decide, p6.1⟩
    | 5, _ => exact ⟨by decide, p7.1⟩
    | 6, _ => exact ⟨by decide, p8.1⟩
    | 7, _ => exact ⟨by decide, p9.1⟩
    | 8, _ => cases hj
    | 9, _ => cases hj
  · have hr2 : k = 46 ∨ k = 47 ∨ k = 48 ∨ k = 49 ∨ k = 50 ∨ k = 51 ∨ k = 52 ∨ k = 53 := by omega
    rcases hr2 with rfl | rfl | rfl | rfl | rfl | rfl | rfl | rfl
    · exact kO.ar p2.2 (by decide)
    · exact kO.ar p3.2 (by decide)
    · exact kO.ar p4.2 (by decide)
    · exact kO.ar p5.2 (by decide)
    · exact kO.ar p6.2 (by decide)
    · exact kO.ar p7.2 (by decide)
    · exact kO.ar p8.2 (by decide)
    · exact kO.ar p9.2 (by decide)
  · refine ⟨13, 8, t4.1, by decide, fun j v g e => ?_⟩
    rcases g with ⟨g, -⟩ | ⟨-, g⟩
    · omega
    · rw [(t4.2 j g).1] at e
      cases e
      rw [show h + 55 + j = h + (55 + j) by omega]
      exact zn_at (Or.inr (decide_eq_false (by omega)))
  · have := (t4.2 (k - 55) (by omega)).2
    rw [show h + 55 + (k - 55) = h + k by omega] at this
    exact kO.ar this (by decide)
  · refine kO.ob [45, 1, 64, 65, 66, 67] u1 (by decide) (fun j hj => ?_) (by decide)
    have := zf (m := 7) rfl hj
    match j, this with
    | 0, _ => exact ⟨by decide, u2⟩
    | 1, _ => exact ⟨by decide, u3⟩
    | 2, _ => exact ⟨by decide, u4.1⟩
    | 3, _ => exact ⟨by decide, u5.1⟩
    | 4, _ => exact ⟨by decide, u6.1⟩
    | 5, _ => exact ⟨by decide, u7.1⟩
    | 6, _ => cases hj
  · exact kO.ar u4.2 (by decide)
  · refine ⟨12, 24, u5.2, by decide, fun j v g e => ?_⟩
    rcases g with ⟨g, -⟩ | ⟨-, g⟩
    · omega
    · have e2 := (u8 j g).1
      rw [show h + 63 + 2 = h + 65 by omega, e] at e2
      cases e2
      rw [show h + 63 + 5 + 2 * j = h + (68 + 2 * j) by omega]
      exact zn_at (Or.inr (decide_eq_false (by omega)))
  · exact kO.ar u6.2 (by decide)
  · exact kO.ar u7.2 (by decide)
  · refine kO.ob [45, 1, 117, 118, 119, 120] v1 (by decide) (fun j hj => ?_) (by decide)
    have := zf (m := 7) rfl hj
    match j, this with
    | 0, _ => exact ⟨by decide, v2⟩
    | 1, _ => exact ⟨by decide, v3⟩
    | 2, _ => exact ⟨by decide, v4.1⟩
    | 3, _ => exact ⟨by decide, v5.1⟩
    | 4, _ => exact ⟨by decide, v6.1⟩
    | 5, _ => exact ⟨by decide, v7.1⟩
    | 6, _ => cases hj
  · exact kO.ar v4.2 (by decide)
  · refine ⟨12, 24, v5.2, by decide, fun j v g e => ?_⟩
    rcases g with ⟨g, -⟩ | ⟨-, g⟩
    · omega
    · have e2 := (v8 j g).1
      rw [show h + 116 + 2 = h + 118 by omega, e] at e2
      cases e2
      rw [show h + 116 + 5 + 2 * j = h + (121 + 2 * j) by omega]
      exact zn_at (Or.inr (decide_eq_false (by omega)))
  · exact kO.ar v6.2 (by decide)
  · exact kO.ar v7.2 (by decide)
  · refine kO.ob [170, 171, 172, 173, 174, 175] a1 (by decide) (fun j hj => ?_) (by decide)
    have := zf (m := 7) rfl hj
    match j, this with
    | 0, _ => exact ⟨by decide, a2.1⟩
    | 1, _ => exact ⟨by decide, a3.1⟩
    | 2, _ => exact ⟨by decide, a4.1⟩
    | 3, _ => exact ⟨by decide, a5.1⟩
    | 4, _ => exact ⟨by decide, a6.1⟩
    | 5, _ => exact ⟨by decide, a7.1⟩
    | 6, _ => cases hj
  · have hr2 : k = 170 ∨ k = 171 ∨ k = 172 ∨ k = 173 ∨ k = 174 ∨ k = 175 := by omega
    rcases hr2 with rfl | rfl | rfl | rfl | rfl | rfl
    · exact kO.ar a2.2 (by decide)
    · exact kO.ar a3.2 (by decide)
    · exact kO.ar a4.2 (by decide)
    · exact kO.ar a5.2 (by decide)
    · exact kO.ar a6.2 (by decide)
    · exact kO.ar a7.2 (by decide)
  · refine kO.ob [177, 178, 179] o1 (by decide) (fun j hj => ?_) (by decide)
    have := zf (m := 3) rfl hj
    match j, this with
    | 0, _ => exact ⟨by decide, o2.1⟩
    | 1, _ => exact ⟨by decide, o3.1⟩
    | 2, _ => exact ⟨by decide, o4.1⟩
  · exact kO.ar o2.2 (by decide)
  · exact kO.ar o3.2 (by decide)
  · exact kO.ar o4.2 (by decide)
  · refine kO.ob [181, 182] m1 (by decide) (fun j hj => ?_) (by decide)
    have := zf (m := 3) rfl hj
    match j, this with
    | 0, _ => exact ⟨by decide, m2.1⟩
    | 1, _ => exact ⟨by decide, m3.1⟩
    | 2, _ => cases hj
  · exact kO.ar m2.2 (by decide)
  · exact kO.ar m3.2 (by decide)
theorem row_at {wn : Nat} (hL : cLR h (h + 174) (h + 175) (h + 177) wn S.1 S.2.2.1) {k : Nat} (hk : rwk k = true) : cRoR S.1 S.2.2.1 (h + k) := by
  obtain ⟨t1, t2, t3, t4, t5, t6, t7, t8, t9⟩ := hL
  rcases rwk_t.mp hk with rfl | ⟨g1, g2, g3⟩ | ⟨g1, g2, g3⟩ | ⟨g1, g2, g3⟩
  · exact t2.2.2.2.1
  · have := (t2.2.2.2.2.2 ((k - 5) / 2) (by omega)).2
    rw [show h + 5 + 2 * ((k - 5) / 2) = h + k by omega] at this
    exact this
  · have := (t5.2.2.2.2.2.2.2 ((k - 68) / 2) (by omega)).2
    rw [show h + 63 + 5 + 2 * ((k - 68) / 2) = h + k by omega] at this
    exact this
  · have := (t6.2.2.2.2.2.2.2 ((k - 121) / 2) (by omega)).2
    rw [show h + 116 + 5 + 2 * ((k - 121) / 2) = h + k by omega] at this
    exact this
/-- the relation holds at the start -/
theorem zR_start {z : Nat} {S1 S2 : zS} (hL : cLR h (h + 174) (h + 175) (h + 177) 1 S1.1 S1.2.2.1) (hz : ∀ a, h ≤ a → a < h + 183 → a ≠ h + 181 → ∀ j, S1.2.1 a j = if S1.1 a = some (5, 0) ∧ j = 0 then vfh h a else 0) (hlo : ∀ a, a < h → S2.1 a = none) (he : eX (h + 183) (h + 183) S1 S2) (hzz : h + 183 ≤ z) : zR (rws h) (h + 183) (z + 69) z (zcut (vst h S2) (fun q => decide (q < h + 183))) (zcut S2 (fun q => decide (q < h + 183))) := by
  have cV : ∀ a, a < h + 183 → (zcut (vst h S2) (fun q => decide (q < h + 183))).1 a = (vst h S2).1 a := fun a ha => if_pos (decide_eq_true ha)
  have cS : ∀ a, a < h + 183 → (zcut S2 (fun q => decide (q < h + 183))).1 a = S2.1 a := fun a ha => if_pos (decide_eq_true ha)
  have cN : ∀ {a : Nat} {q : Nat × Nat}, (zcut (vst h S2) (fun q => decide (q < h + 183))).1 a = some q → a < h + 183 := fun {a q} e => by
    by_cases g : a < h + 183
    · exact g
    · have e : (if decide (a < h + 183) = true then (vst h S2).1 a else none) = some q := e
      rw [if_neg (fun q => g (of_decide_eq_true q))] at e
      cases e
  have ge : ∀ {a : Nat} {q : Nat × Nat}, (zcut (vst h S2) (fun q => decide (q < h + 183))).1 a = some q → h ≤ a := fun {a q} e => by
    by_cases g : h ≤ a
    · exact g
    · rw [cV a (cN e)] at e
      have e : (if h < a ∧ rwk (a - h - 1) = true then some (9, mst h a) else S2.1 a) = some q := e
      rw [if_neg (fun q => by omega), hlo a (by omega)] at e
      cases e
  have oth : ∀ {a : Nat}, h ≤ a → a < h + 183 → a ∉ rws h → zn (rws h) a → ∃ k, a = h + k ∧ k < 183 ∧ rwk k = false ∧ (k = 0 ∨ rwk (k - 1) = false) := fun {a} g1 g2 g3 g4 => by
    refine ⟨a - h, by omega, by omega, ?_, ?_⟩
    · cases e : rwk (a - h) with
      | false => rfl
      | true => exact absurd (rws_mem.mpr ⟨a - h, by omega, e, by omega⟩) g3
    · by_cases e0 : a - h = 0
      · exact Or.inl e0
      · refine Or.inr ?_
        cases e : rwk (a - h - 1) with
        | false => rfl
        | true => exact absurd (show a = (h + (a - h - 1)) + 1 by omega) (g4 _ (rws_mem.mpr ⟨a - h - 1, by omega, e, rfl⟩))
  have kO2 : ∀ {k : Nat}, k < 183 → rwk k = false → (k = 0 ∨ rwk (k - 1) = false) → kO h S2 k := fun {k} g1 g2 g3 => by
    obtain ⟨c, n, w1, w2, w3⟩ := kO_all hL g1 g2 g3
    obtain ⟨e1, -, e3⟩ := he (h + k) (by omega)
    exact ⟨c, n, e1.trans w1, w2, fun j v g e => w3 j v g ((e3 (by omega) j).symm.trans e)⟩
  refine ⟨fun a ha => ?_, fun a c n hk g1 g2 => ?_, fun a c n k v hk g1 g2 gr e => ?_, fun a ha a' ha' e => ?_, fun a ha => ?_, hzz, ?_⟩
  · obtain ⟨k, k1, k2, rfl⟩ := rws_mem.mp ha
    have k3 := rwk_t.mp k2
    have r0 := row_at hL k2
    obtain ⟨e1, e2, e3⟩ := he (h + k) (by omega)
    obtain ⟨f1, -, -⟩ := he (h + k + 1) (by omega)
    have i0 : ∀ j, S2.2.1 (h + k) j = if j = 0 then vfh h (h + k) else 0 := fun j => by
      rw [e2 j, hz (h + k) (by omega) (by omega) (by omega) j, r0.1]
      by_cases ej : j = 0
      · rw [if_pos ⟨rfl, ej⟩, if_pos ej]
      · rw [if_neg (fun q => ej q.2), if_neg ej]
    have hm : mst h (h + k + 1) ≤ 200 ∧ vfh h (h + k) = nI (mst h (h + k + 1)) := by
      unfold mst vfh
      by_cases q : k < 62
      · rw [if_pos (by omega), if_pos (by omega)]
        exact ⟨by decide, rfl⟩
      · rw [if_neg (by omega), if_neg (by omega)]
        exact ⟨by decide, rfl⟩
    refine ⟨mst h (h + k + 1), 0, h + k + 1, hm.1, Nat.zero_le _, ?_, ?_, ?_, ?_, ?_, ?_, ?_, ?_, Or.inl ⟨rfl, ?_, rfl⟩⟩
    · rw [cV _ (by omega), vst_k (Or.inr (decide_eq_false (by omega)))]
      exact e1.trans r0.1
    · rw [cS _ (by omega)]
      exact e1.trans r0.1
    · show (if h + k ∈ rws h then _ else _) = _
      rw [if_pos ha, if_pos rfl]
    · rw [cV _ (by omega)]
      exact vst_b k2
    · show S2.2.1 (h + k) 0 = _
      rw [i0, if_pos rfl]
      exact hm.2
    · show (if h + k ∈ rws h then _ else _) = _
      rw [if_pos ha]
      rfl
    · show S2.2.1 (h + k) 2 = _
      rw [i0, if_neg (by decide)]
      rfl
    · show S2.2.2.1 (h + k) 1 = _
      rw [e3 (by omega) 1]
      exact r0.2.1
    · rw [cS _ (by omega)]
      exact f1.trans r0.2.2
  · have l1 := cN hk
    obtain ⟨k, rfl, k1, k2, k3⟩ := oth (ge hk) l1 g1 g2
    obtain ⟨c', n', w1, w2, w3⟩ := kO2 k1 k2 k3
    rw [cV _ l1, vst_k k3, w1] at hk
    cases hk
    refine ⟨by rw [cS _ l1]; exact w1, w2, ?_, ?_, rfl, by omega, fun _ => l1⟩
    · funext j
      exact (vst_i k2).symm
    · funext j
      exact (vst_r k2).symm
  · have l1 := cN hk
    obtain ⟨k', rfl, k1, k2, k3⟩ := oth (ge hk) l1 g1 g2
    obtain ⟨c', n', w1, w2, w3⟩ := kO2 k1 k2 k3
    rw [cV _ l1, vst_k k3, w1] at hk
    cases hk
    exact w3 k v gr ((vst_r k2).symm.trans e)
  · obtain ⟨k, k1, k2, rfl⟩ := rws_mem.mp ha
    obtain ⟨k', k1', k2', rfl⟩ := rws_mem.mp ha'
    have e : S2.2.2.1 (h + k) 1 = S2.2.2.1 (h + k') 1 := e
    rw [(he (h + k) (by omega)).2.2 (by omega) 1, (he (h + k') (by omega)).2.2 (by omega) 1, (row_at hL k2).2.1, (row_at hL k2').2.1] at e
    have := Option.some.inj e
    omega
  · obtain ⟨k, k1, k2, rfl⟩ := rws_mem.mp ha
    have := rwk_t.mp k2
    omega
  · have h1 : zU (zcut S2 (fun q => decide (q < h + 183))).2.2.1 (rws h) ≤ (rws h).length := List.countP_le_length
    rw [rws_len] at h1
    omega
/-- the virtual ints of a new class -/
theorem vst_0 (hL : cLR h (h + 174) (h + 175) (h + 177) 1 S.1 S.2.2.1) (hz : ∀ a, h ≤ a → a < h + 183 → a ≠ h + 181 → ∀ j, S.2.1 a j = if S.1 a = some (5, 0) ∧ j = 0 then vfh h a else 0) : ∀ a, h ≤ a → a < h + 183 → a ≠ h + 181 → ∀ j, (vst h S).2.1 a j = 0 := by
  intro a g1 g2 g3 j
  show (if a ∈ rws h then 0 else S.2.1 a j) = 0
  by_cases ha : a ∈ rws h
  · exact if_pos ha
  · rw [if_neg ha, hz a g1 g2 g3 j]
    refine if_neg fun q => ?_
    obtain ⟨k, rfl⟩ : ∃ k, a = h + k := ⟨a - h, by omega⟩
    have h1 : rwk k = false := by
      cases e : rwk k with
      | false => rfl
      | true => exact absurd (rws_at e) ha
    by_cases h2 : k = 0 ∨ rwk (k - 1) = false
    · obtain ⟨c, n, w1, w2, -⟩ := kO_all hL (by omega) h1 h2
      rw [w1] at q
      cases q.1
      exact w2 rfl
    · have h3 : rwk (k - 1) = true := by
        cases e : rwk (k - 1) with
        | false => exact absurd (Or.inr e) h2
        | true => rfl
      have h0 : k ≠ 0 := fun e => h2 (Or.inl e)
      have := (row_at hL h3).2.2
      rw [show h + (k - 1) + 1 = h + k by omega, q.1] at this
      cases this
theorem vst_e {S1 S2 : zS} (he : eX (h + 183) (h + 183) S1 S2) : eX (h + 183) (h + 183) (vst h S1) (vst h S2) := fun a ha => by
  obtain ⟨e1, e2, e3⟩ := he a ha
  refine ⟨?_, fun j => ?_, fun hn j => ?_⟩
  · show (if h < a ∧ rwk (a - h - 1) = true then some (9, mst h a) else S2.1 a) = if h < a ∧ rwk (a - h - 1) = true then some (9, mst h a) else S1.1 a
    rw [e1]
  · show (if a ∈ rws h then 0 else S2.2.1 a j) = if a ∈ rws h then 0 else S1.2.1 a j
    rw [e2 j]
  · show (if a ∈ rws h then (if j = 0 then some (a + 1) else none) else S2.2.2.1 a j) = if a ∈ rws h then (if j = 0 then some (a + 1) else none) else S1.2.2.1 a j
    rw [e3 hn j]
end ST
theorem lp_all (h : Nat) {L : Nat} {xs : Nat → Int32} (hL : L ≤ 2560) : LPure h L xs := by
  obtain ⟨⟨S1, z1⟩, e1, q1, q2, q3, q4, q5⟩ := cls_new (N := 100000) (h := h) (by decide) zN0
  dsimp only at q1 q2 q3 q4 q5
  subst q1
  obtain ⟨⟨S2, z2⟩, e2, p1, p2, p3, p4, p5⟩ := mdl_new (N := 100000) (z := h + 183) (S := S1)
  dsimp only at p1 p2 p3 p4 p5
  subst p1
  have hlo : ∀ a, a < h → S2.1 a = none := fun a ha => ((p2 a (by omega)).1).trans (q5 a ha)
  have hR := zR_start (z := h + 183 + 28) q2 q3 hlo p2 (by omega)
  have hRR := RR_start (vst_L ⟨rfl, rfl⟩ rfl q2) (vst_0 q2 q3) (fun j hj => (vst_i (k := 181) (by decide)).trans (q4 j hj)) (vst_e p2) p3 p4 p5
  exact ⟨100000, S1, h + 183, S2, h + 183 + 28, e1, e2, LR_all (by decide) (zn_at (k := 0) (Or.inl rfl)) (L / 5) 0 _ _ _ _ 211 124461 1 (h + 183 + 28 + 69) hRR hR (by omega) (by omega)⟩
