/-! the model: usedBy, readBy, wordsOf, reads, uses -/
section M11
variable {N b : Nat} {K : Nat → Option (Nat × Nat)} {iv : Nat → Nat → Int32} {rv : Nat → Nat → Option Nat} {lv : Nat → Nat → Int64}
variable {tp : List Int32} {nt : Nat} {tx : Nat → List Int32} {lk : Nat → Bool} {ns : Nat} {tl : Nat → Nat} {pa : Nat → Int32} {pb : Nat → Nat} {ins : Nat → List Nat} {wd : Nat → Nat → Int32}
theorem dP.ok (h : dP nt ns tl pa pb ins) (hnt : nt ≤ 20) : okP nt ns ins := ⟨hnt, h.1, fun s hs => (h.2 s hs).2.2.2.2⟩
theorem nI_m1 (k : Nat) : nI (k + 1) + (-1 : Int32) = nI k := by
  have : nI (k + 1) + (-1 : Int32) = nI (k + 1) - 1 := by rw [Int32.sub_eq_add_neg]
  rw [this, nI_pred]
theorem m_usedBy {s : Nat} (hL : mL b K rv) (hP : mP b iv ns tl pa pb ins) (hdP : dP nt ns tl pa pb ins) (hnt : nt ≤ 20) (hs : s < ns) (hN : 300 < N) : zw (fX8_usedBy N (K, iv, rv, lv) b (nI s)) (fun q => q.2 = (K, iv, rv, lv) ∧ isS q.1 (usd ins s)) := by
  have hn := hdP.1
  have hok := hdP.ok hnt
  unfold fX8_usedBy fX8_usedBy_0 lX8_usedBy_6
  refine zw.loop (fun m y => ∃ x : Int32, m ≤ s + 1 ∧ y = ((K, iv, rv, lv), b, x, nI m - 1) ∧ (∀ i, i < 32 → (m ≤ i → bt x i = usd ins s i) ∧ (i < m → (bt x i = true ↔ i = s ∨ ∃ k, m ≤ k ∧ k ≤ s ∧ usd ins s k = true ∧ 100 + i ∈ ins k)))) ?_ N (s + 1) _ (by omega) ⟨_, Nat.le_refl _, by rw [nI_pred], fun i hi => ⟨fun h => ?_, fun h => ?_⟩⟩
  rotate_left
  · rw [bt_one (by omega) hi, decide_eq_false (by omega)]
    cases hu : usd ins s i with
    | false => rfl
    | true => have := usd_le hok s hs i hu; omega
  · rw [bt_one (by omega) hi, decide_eq_true_eq]
    constructor
    · exact Or.inl
    · rintro (e | ⟨k, h1, h2, -⟩)
      · exact e
      · omega
  rintro m ⟨S, x0, x2, x3⟩ Kc ⟨xx, hm, hy, g⟩ ih
  cases hy
  dsimp only
  unfold fX8_usedBy_6 fX8_usedBy_76
  cases m with
  | zero => exact zw.t (by decide) (zw.s ⟨rfl, fun i hi => (g i hi).1 (by omega)⟩)
  | succ k =>
    rw [nI_pred]
    refine zw.f (nI_pos (by omega)) ?_
    have hk32 : k < 32 := by omega
    have huk : bt x2 k = usd ins s k := by
      have h1 := (g k hk32).2 (by omega)
      have h2 := usd_back hok s hs k
      cases hb : bt x2 k with
      | true =>
        rcases h1.mp hb with e | ⟨j, q1, q2, q3, q4⟩
        · exact (h2.mpr (Or.inl e)).symm
        · exact (h2.mpr (Or.inr ⟨j, q2, q3, q4⟩)).symm
      | false =>
        cases hu : usd ins s k with
        | false => rfl
        | true =>
          rcases h2.mp hu with e | ⟨j, q1, q2, q3⟩
          · rw [h1.mpr (Or.inl e)] at hb; cases hb
          · have hkj : k < j := by
              rcases hok.2.2 j (by omega) _ q3 with q | q
              · omega
              · omega
            rw [h1.mpr (Or.inr ⟨j, by omega, q1, q2, q3⟩)] at hb; cases hb
    have next : ∀ y : Int32, (∀ i, i < 32 → (bt y i = true ↔ bt x2 i = true ∨ (usd ins s k = true ∧ 100 + i ∈ ins k))) → zw (Kc ((K, iv, rv, lv), b, y, nI k + (-1 : Int32))) (fun q => q.2 = (K, iv, rv, lv) ∧ isS q.1 (usd ins s)) := by
      intro y hy
      refine ih k _ (by omega) ⟨y, by omega, by rw [Int32.sub_eq_add_neg], fun i hi => ⟨fun h => ?_, fun h => ?_⟩⟩
      · have hno : ¬ 100 + i ∈ ins k := fun q => by
          rcases hok.2.2 k (by omega) _ q with z | z <;> omega
        have e : bt y i = bt x2 i := by
          cases hb : bt x2 i with
          | true => exact (hy i hi).mpr (Or.inl hb)
          | false =>
            cases hb2 : bt y i with
            | false => rfl
            | true =>
              rcases (hy i hi).mp hb2 with q | q
              · rw [hb] at q; cases q
              · exact absurd q.2 hno
        rw [e]
        by_cases e2 : i = k
        · rw [e2]; exact huk
        · exact (g i hi).1 (by omega)
      · rw [hy i hi, (g i hi).2 (by omega)]
        constructor
        · rintro ((e | ⟨j, q1, q2, q3, q4⟩) | ⟨q1, q2⟩)
          · exact Or.inl e
          · exact Or.inr ⟨j, by omega, q2, q3, q4⟩
          · exact Or.inr ⟨k, Nat.le_refl _, by omega, q1, q2⟩
        · rintro (e | ⟨j, q1, q2, q3, q4⟩)
          · exact Or.inl (Or.inl e)
          · by_cases e : j = k
            · rw [e] at q3 q4; exact Or.inr ⟨q3, q4⟩
            · exact Or.inl (Or.inr ⟨j, by omega, q2, q3, q4⟩)
    by_cases hb : bt x2 k = false
    · refine zw.t ((shr_0 hk32).mpr hb) (next x2 (fun i hi => ?_))
      constructor
      · exact Or.inl
      · rintro (q | ⟨q, -⟩)
        · exact q
        · rw [← huk, hb] at q; cases q
    · have hut : usd ins s k = true := by rw [← huk]; cases hq : bt x2 k with
        | true => rfl
        | false => exact absurd hq hb
      refine zw.f (fun q => hb ((shr_0 hk32).mp q)) ?_
      have hl4 := (hdP.2 k (by omega)).2.2.2.1
      unfold lX8_usedBy_24
      refine zw.loop (fun m2 z => ∃ j y, j + m2 = (ins k).length ∧ z = ((K, iv, rv, lv), b, y, nI k, nI j) ∧ ∀ i, i < 32 → (bt y i = true ↔ bt x2 i = true ∨ ∃ q, q < j ∧ (ins k).getD q 0 = 100 + i)) ?_ N (ins k).length _ (by omega) ⟨0, x2, by omega, rfl, fun i hi => ⟨Or.inl, fun q => by rcases q with q | ⟨q, h, -⟩; exact q; omega⟩⟩
      rintro m2 ⟨S, x0, x5, x6, x7⟩ Kc2 ⟨j, y, hj, hy2, g2⟩ ih2
      cases hy2
      dsimp only
      unfold fX8_usedBy_24 fX8_usedBy_70 fX8_usedBy_76
      refine zw.e (zgr_at hL.o hL.r_inputs) ?_
      refine zw.e (zil_v hL.k_inputs rfl (by omega) (by decide) (hP.2.2.2.2.1 k (by omega))) ?_
      by_cases hm2 : m2 = 0
      · refine zw.t (nI_le (by omega) (by omega)) (next x5 (fun i hi => ?_))
        rw [g2 i hi]
        constructor
        · rintro (q | ⟨q, h, e⟩)
          · exact Or.inl q
          · exact Or.inr ⟨hut, by rw [← e]; exact getD_mem (by omega)⟩
        · rintro (q | ⟨-, q⟩)
          · exact Or.inl q
          · obtain ⟨p, hp, hpe⟩ := List.getElem_of_mem q
            exact Or.inr ⟨p, by omega, by rw [List.getD_eq_getElem?_getD, List.getElem?_eq_getElem hp]; exact hpe⟩
      · refine zw.f (nI_ge (show j < (ins k).length by omega) (by omega)) ?_
        have hix : (4 : Int32) * nI k + nI j = nI (4 * k + j) := by rw [← nI_add, ← nI_mul]; rfl
        have hval := hP.2.2.2.2.2 k (by omega) j (by omega)
        have hmem : (ins k).getD j 0 ∈ ins k := getD_mem (by omega)
        refine zw.e (zgr_at hL.o hL.r_input) ?_
        refine zw.e (zil_v hL.k_input hix (by omega) (by decide) hval) ?_
        rcases hok.2.2 k (by omega) _ hmem with hlt | ⟨hge, hlt⟩
        · refine zw.t (nI_lt (show (ins k).getD j 0 < 100 by omega) (by decide)) ?_
          refine ih2 (m2 - 1) _ (by omega) ⟨j + 1, x5, by omega, by rw [nI_1 j], fun i hi => ?_⟩
          rw [g2 i hi]
          constructor
          · rintro (q | ⟨q, h, e⟩)
            · exact Or.inl q
            · exact Or.inr ⟨q, by omega, e⟩
          · rintro (q | ⟨q, h, e⟩)
            · exact Or.inl q
            · by_cases eq : q = j
              · rw [eq] at e; omega
              · exact Or.inr ⟨q, by omega, e⟩
        · refine zw.f (nI_nlt hge (by omega)) ?_
          refine zw.e (zgr_at hL.o hL.r_input) ?_
          refine zw.e (zil_v hL.k_input hix (by omega) (by decide) hval) ?_
          show zw (Kc2 (_, _, _, _, _)) _
          rw [show (100 : Int32) = nI 100 from rfl, nI_sub hge]
          refine ih2 (m2 - 1) _ (by omega) ⟨j + 1, _, by omega, by rw [nI_1 j], fun i hi => ?_⟩
          rw [bt_set (by omega) hi, Bool.or_eq_true, decide_eq_true_eq, g2 i hi]
          constructor
          · rintro ((q | ⟨q, h, e⟩) | e)
            · exact Or.inl q
            · exact Or.inr ⟨q, by omega, e⟩
            · exact Or.inr ⟨j, by omega, by omega⟩
          · rintro (q | ⟨q, h, e⟩)
            · exact Or.inl (Or.inl q)
            · by_cases eq : q = j
              · rw [eq] at e; exact Or.inr (by omega)
              · exact Or.inl (Or.inr ⟨q, by omega, e⟩)
/-- the word that a step's tool reads -/
def rdW (tl : Nat → Nat) (pb : Nat → Nat) (s w : Nat) : Bool := decide (tl s = 1 ∨ tl s = 2 ∨ tl s = 5) && decide (w = pb s)
theorem m_readBy {s : Nat} {o : Option (List Int32)} (hL : mL b K rv) (hP : mP b iv ns tl pa pb ins) (hdP : dP nt ns tl pa pb ins) (hs : s < ns) (hS : mS b iv s o) (hg : ∀ L, o = some L → L.length ≤ 200) : zw (fX8_readBy N (K, iv, rv, lv) b (nI s)) (fun q => q.2 = (K, iv, rv, lv) ∧ isS q.1 (fun w => o.isSome && rdW tl pb s w)) := by
  have hn := hdP.1
  obtain ⟨ht7, -, hpb8, -, -⟩ := hdP.2 s hs
  unfold fX8_readBy fX8_readBy_0 fX8_readBy_51 fX8_readBy_40 fX8_readBy_52
  refine zw.e (zgr_at hL.o hL.r_size) ?_
  refine zw.e (zil_v hL.k_size rfl (by omega) (by decide) hS.sz) ?_
  cases o with
  | none => exact zw.t rfl (zw.s ⟨rfl, isS.zero fun i hi => rfl⟩)
  | some L =>
    refine zw.f (nI_n1 (by have := hg L rfl; omega)) ?_
    have rd : (tl s = 1 ∨ tl s = 2 ∨ tl s = 5) → zw ((zgr (K, iv, rv, lv) b 8 11).bind fun v1 => (zil (K, iv, rv, lv) v1 (nI s)).bind fun v2 => some ((1 : Int32) <<< (v2 &&& 31), (K, iv, rv, lv))) (fun q => q.2 = (K, iv, rv, lv) ∧ isS q.1 (fun w => (some L).isSome && rdW tl pb s w)) := fun h => by
      refine zw.e (zgr_at hL.o hL.r_b) ?_
      refine zw.e (zil_v hL.k_b rfl (by omega) (by decide) (hP.2.2.2.1 s hs)) ?_
      refine zw.s ⟨rfl, fun i hi => ?_⟩
      rw [bt_one (by omega) hi]
      simp [rdW, h]
    have ne : ∀ k : Nat, k ≤ 7 → tl s ≠ k → ¬ nI (tl s) = nI k := fun k hk q z => q ((nI_eq (by omega) (by omega)).mp z)
    refine zw.e (zgr_at hL.o hL.r_tool) ?_
    refine zw.e (zil_v hL.k_tool rfl (by omega) (by decide) (hP.2.1 s hs)) ?_
    by_cases c1 : tl s = 1
    · exact zw.t (by rw [c1]; rfl) (rd (Or.inl c1))
    refine zw.f (ne 1 (by decide) c1) ?_
    refine zw.e (zgr_at hL.o hL.r_tool) ?_
    refine zw.e (zil_v hL.k_tool rfl (by omega) (by decide) (hP.2.1 s hs)) ?_
    by_cases c2 : tl s = 2
    · exact zw.t (by rw [c2]; rfl) (rd (Or.inr (Or.inl c2)))
    refine zw.f (ne 2 (by decide) c2) ?_
    refine zw.e (zgr_at hL.o hL.r_tool) ?_
    refine zw.e (zil_v hL.k_tool rfl (by omega) (by decide) (hP.2.1 s hs)) ?_
    by_cases c5 : tl s = 5
    · exact zw.t (by rw [c5]; rfl) (rd (Or.inr (Or.inr c5)))
    refine zw.f (ne 5 (by decide) c5) (zw.s ⟨rfl, isS.zero fun i hi => ?_⟩)
    simp [rdW, c1, c2, c5]
end M11
