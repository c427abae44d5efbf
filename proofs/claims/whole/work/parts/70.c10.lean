/-! the class: rooms -/
def ntz74 (x0 x1 : Int32) : Int32 := x1 + zush x0 1
def ntz62 (x0 x1 : Int32) : Int32 := if x0 ≤ 4 then ntz74 x0 x1 else ntz74 (zush x0 2) (x1 + 2)
def ntz49 (x0 x1 : Int32) : Int32 := if x0 ≤ 16 then ntz62 x0 x1 else ntz62 (zush x0 4) (x1 + 4)
def ntz34 (x0 x1 : Int32) : Int32 := if x0 ≤ 256 then ntz49 x0 x1 else ntz49 (zush x0 8) (x1 + 8)
def ntz0 (v1 : Int32) : Int32 := if 0 < v1 then (if v1 ≤ 65536 then ntz34 v1 1 else ntz34 (zush v1 16) (1 + 16)) else v1 &&& 32
theorem ntz_62 {N : Nat} {S : zS} (x0 x1 : Int32) : fJ6_numberOfTrailingZeros_0f7a4_62 N S x0 x1 = some (ntz62 x0 x1, S) := by
  unfold fJ6_numberOfTrailingZeros_0f7a4_62 fJ6_numberOfTrailingZeros_0f7a4_74 ntz62 ntz74
  split <;> rfl
theorem ntz_49 {N : Nat} {S : zS} (x0 x1 : Int32) : fJ6_numberOfTrailingZeros_0f7a4_49 N S x0 x1 = some (ntz49 x0 x1, S) := by
  unfold fJ6_numberOfTrailingZeros_0f7a4_49 ntz49
  split <;> exact ntz_62 _ _
theorem ntz_34 {N : Nat} {S : zS} (x0 x1 : Int32) : fJ6_numberOfTrailingZeros_0f7a4_34 N S x0 x1 = some (ntz34 x0 x1, S) := by
  unfold fJ6_numberOfTrailingZeros_0f7a4_34 ntz34
  split <;> exact ntz_49 _ _
theorem j_ntz {N : Nat} {S : zS} (x : Int32) : fJ6_numberOfTrailingZeros_0f7a4 N S x = some (ntz0 ((x ^^^ (-1)) &&& (x - 1)), S) := by
  unfold fJ6_numberOfTrailingZeros_0f7a4 fJ6_numberOfTrailingZeros_0f7a4_0 zlet ntz0
  dsimp only
  generalize (x ^^^ (-1)) &&& (x - 1) = v1
  by_cases h1 : 0 < v1
  · rw [if_pos h1, if_pos h1]
    by_cases h2 : v1 ≤ 65536
    · rw [if_pos h2, if_pos h2]; exact ntz_34 _ _
    · rw [if_neg h2, if_neg h2]; exact ntz_34 _ _
  · rw [if_neg h1, if_neg h1]
theorem ntz_all : ∀ m : Fin 256, 1 ≤ m.val → ∃ l : Fin 8, ntz0 ((nI m.val ^^^ (-1)) &&& (nI m.val - 1)) = nI l.val ∧ m.val.testBit l.val = true ∧ ∀ i : Fin 8, i.val < l.val → m.val.testBit i.val = false := by decide +kernel
section C10
variable {N b B : Nat} {K : Nat → Option (Nat × Nat)} {iv : Nat → Nat → Int32} {rv : Nat → Nat → Option Nat} {lv : Nat → Nat → Int64} {S : zS}
variable {tp : List Int32} {nt : Nat} {tx : Nat → List Int32} {lk : Nat → Bool} {ns : Nat} {tl : Nat → Nat} {pa : Nat → Int32} {pb : Nat → Nat} {ins : Nat → List Nat} {h : Nat → Int32} {wd : Nat → Nat → Int32}
theorem unl_iff {p q w : Nat} : unl wd p q w = true ↔ w < 8 ∧ wd p w ≠ wd q w := by
  unfold unl
  rw [Bool.and_eq_true, decide_eq_true_eq, decide_eq_true_eq]
/-- the words in which a set of rooms differs -/
theorem c_unlikeIn {m : Nat} (hC : cTop b K rv) (hL : cWor b K rv) (hW : cW b iv wd) (h1 : 1 ≤ m) (h2 : m < 256) (hN : 100 < N) : zw (fX7_wordsUnlikeIn N (K, iv, rv, lv) b (nI m)) (fun q => q.2 = (K, iv, rv, lv) ∧ ∀ R : Int32, (∀ i, bt R i = true → i < 8) → (R &&& (q.1 ^^^ (-1)) = 0 ↔ enU wd (nI m) R)) := by
  obtain ⟨⟨l, hl⟩, e, hb, hlow⟩ := ntz_all ⟨m, h2⟩ h1
  dsimp only at e hb hlow
  unfold fX7_wordsUnlikeIn fX7_wordsUnlikeIn_0
  refine zw.e2 (j_ntz _) ?_
  rw [e, nI_1]
  unfold lX7_wordsUnlikeIn_12
  refine zw.imp (P := fun q => q.2 = (K, iv, rv, lv) ∧ ∀ i, i < 32 → (bt q.1 i = true ↔ ∃ r, l < r ∧ r < 8 ∧ m.testBit r = true ∧ unl wd l r i = true)) ?_ ?_
  · refine zw.loop (fun t y => ∃ k z, k + t = 8 ∧ l < k ∧ y = ((K, iv, rv, lv), b, nI m, nI l, z, nI k) ∧ ∀ i, i < 32 → (bt z i = true ↔ ∃ r, l < r ∧ r < k ∧ m.testBit r = true ∧ unl wd l r i = true)) ?_ N (8 - (l + 1)) _ (by omega) ⟨l + 1, 0, by omega, by omega, rfl, fun i hi => by
      rw [b_0]
      constructor
      · intro q; cases q
      · rintro ⟨r, q1, q2, -⟩; omega⟩
    rintro t ⟨S, x0, x1, x2, x3, x4⟩ Kc ⟨k, z, hk, hlk, hy, g⟩ ih
    cases hy
    dsimp only
    unfold fX7_wordsUnlikeIn_12 fX7_wordsUnlikeIn_38
    by_cases ht : t = 0
    · have : k = 8 := by omega
      subst this
      exact zw.t (by decide) (zw.s ⟨rfl, g⟩)
    · refine zw.f (nI_ge (show k < 8 by omega) (by decide)) ?_
      by_cases hc : m.testBit k = true
      · refine zw.f (fun q => by rw [ush_0 (by omega), bt_nI (by omega), hc] at q; cases q) ?_
        refine zw.e (zrc_at hC.1) ?_
        refine zw.c2 (c_unlikeWords hC hL hW hl (show k < 8 by omega) (by omega)) ?_
        intro v S e
        cases e
        refine ih (t - 1) _ (by omega) ⟨k + 1, _, by omega, by omega, by rw [nI_1 k], fun i hi => ?_⟩
        rw [b_or, Bool.or_eq_true, g i hi, bt_ofS hi]
        constructor
        · rintro (⟨r, q1, q2, q3, q4⟩ | q)
          · exact ⟨r, q1, by omega, q3, q4⟩
          · exact ⟨k, hlk, by omega, hc, q⟩
        · rintro ⟨r, q1, q2, q3, q4⟩
          by_cases e : r = k
          · rw [e] at q4; exact Or.inr q4
          · exact Or.inl ⟨r, q1, by omega, q3, q4⟩
      · refine zw.t ((ush_0 (by omega)).mpr (by rw [bt_nI (by omega)]; exact Bool.eq_false_iff.mpr hc)) ?_
        refine ih (t - 1) _ (by omega) ⟨k + 1, _, by omega, by omega, by rw [nI_1 k], fun i hi => ?_⟩
        rw [g i hi]
        constructor
        · rintro ⟨r, q1, q2, q3, q4⟩; exact ⟨r, q1, by omega, q3, q4⟩
        · rintro ⟨r, q1, q2, q3, q4⟩
          have : r ≠ k := fun e => hc (by rw [← e]; exact q3)
          exact ⟨r, q1, by omega, q3, q4⟩
  · rintro ⟨q1, q2⟩ ⟨e1, g⟩
    dsimp only at e1 g
    refine ⟨e1, fun R hR => ?_⟩
    dsimp only
    rw [sub_iff]
    constructor
    · intro hh w hw hbw
      obtain ⟨r, a1, a2, a3, a4⟩ := (g w (by omega)).mp (hh w (by omega) hbw)
      refine ⟨r, l, a1, a2, by rw [bt_nI (by omega)]; exact a3, by rw [bt_nI (by omega)]; exact hb, fun q => (unl_iff.mp a4).2 q.symm⟩
    · intro hh w hw hbw
      have hw8 := hR w hbw
      obtain ⟨p, q, a1, a2, a3, a4, a5⟩ := hh w hw8 hbw
      rw [bt_nI (by omega)] at a3 a4
      have hlq : l ≤ q := by
        rcases Nat.lt_or_ge q l with z | z
        · rw [hlow ⟨q, by omega⟩ z] at a4; cases a4
        · exact z
      refine (g w hw).mpr ?_
      by_cases e2 : wd l w = wd p w
      · have hne : wd l w ≠ wd q w := fun z => a5 (by rw [← e2, z])
        have : l ≠ q := fun z => hne (by rw [z])
        exact ⟨q, by omega, by omega, a4, unl_iff.mpr ⟨hw8, hne⟩⟩
      · exact ⟨p, by omega, a2, a3, unl_iff.mpr ⟨hw8, e2⟩⟩
theorem in_1 {x : Int32} (h1 : ¬ x < 1) (h2 : x ≤ 255) : ¬ x < 1 ∧ ¬ 255 < x := ⟨h1, Int32.not_lt.mpr h2⟩
theorem c_rooms {x y : Int32} (hG : cG b K rv) (hA : cA b iv tp nt tx lk ns tl pa pb ins wd) (hN : 600 < N) :
    zw (fX7_rooms N (K, iv, rv, lv) b x y) (fun q => ((inR ns x ∧ (¬ y < 1 ∧ ¬ 255 < y) → spFix (rmD wd y (ofS (rdS (thg tx lk tl pa pb ins (wd 0)) tl pb (usd ins x.toNatClampNeg) (x.toNatClampNeg + 1)))) (-2) q.1) ∧ (¬ (inR ns x ∧ (¬ y < 1 ∧ ¬ 255 < y)) → q.1 = -1)) ∧ ∃ iv', q.2 = (K, iv', rv, lv) ∧ fQ (aTwo b) iv iv') := by
  have hn := hA.2.2.2.2.1.1
  have hok := hA.2.2.2.2.1.ok hA.2.2.2.1.2.1
  have hpb : ∀ s, s < ns → pb s < 8 := fun s hs => (hA.2.2.2.2.1.2 s hs).2.2.1
  obtain ⟨hC, hX, hL, hWo, hB1, hB2⟩ := id hG
  unfold fX7_rooms fX7_rooms_0 fX7_rooms_20
  have bad : ¬ (inR ns x ∧ (¬ y < 1 ∧ ¬ 255 < y)) → zw (some ((-1 : Int32), ((K, iv, rv, lv) : zS))) (fun q => ((inR ns x ∧ (¬ y < 1 ∧ ¬ 255 < y) → spFix (rmD wd y (ofS (rdS (thg tx lk tl pa pb ins (wd 0)) tl pb (usd ins x.toNatClampNeg) (x.toNatClampNeg + 1)))) (-2) q.1) ∧ (¬ (inR ns x ∧ (¬ y < 1 ∧ ¬ 255 < y)) → q.1 = -1)) ∧ ∃ iv', q.2 = (K, iv', rv, lv) ∧ fQ (aTwo b) iv iv') := fun q => zw.s ⟨⟨fun z => absurd z q, fun _ => rfl⟩, iv, rfl, fQ.rf⟩
  refine zw.e (zrc_at hC.1) ?_
  refine zw.e2 (c_isStep hC hL hA.2.1.1) ?_
  by_cases h1 : inR ns x
  · rw [if_pos h1]
    refine zw.f (by decide) ?_
    refine zw.it (fun c => bad fun q => q.2.1 c) (fun c1 => ?_)
    refine zw.it (fun c2 => ?_) (fun c => bad fun q => q.2.2 (Int32.not_le.mp c))
    have hall : inR ns x ∧ (¬ y < 1 ∧ ¬ 255 < y) := ⟨h1, in_1 c1 c2⟩
    obtain ⟨s, hs, rfl⟩ := h1.at (by omega)
    rw [nI_clamp (show s < 2 ^ 31 by omega)]
    refine c_m1 (r := 0) hG hA (by decide) hs hN (fun iv1 f1 hA1 g1 => ?_)
    refine zw.e (zgr_at hC.1 hC.2.2.2.2.1) ?_
    refine zw.e (zgr_at hC.1 hC.2.2.1) ?_
    refine zw.e (zgr_at hL.1 hL.r_used) ?_
    refine zw.e (zil_v hL.k_used rfl (by omega) (by decide) rfl) ?_
    refine zw.e (zrc_at hB1.1) ?_
    refine zw.c2 (c_wordsRead (th := thg tx lk tl pa pb ins (wd 0)) hB1 hL hA1.2.1 hA1.2.2.2.2.1 (hA1.2.1.2.2.2.2.2.2.1 s hs) g1 (by omega)) ?_
    intro q S e
    cases e
    have eR : ofS (rdS (thg tx lk tl pa pb ins (wd 0)) tl pb (usd ins s) ns) = ofS (rdS (thg tx lk tl pa pb ins (wd 0)) tl pb (usd ins s) (s + 1)) := ofS_cong fun i hi => rdS_cut (by omega) (fun k q1 q2 => rdU_out hok hs true k q1 q2) i
    rw [eR]
    have hR : ∀ i, bt (ofS (rdS (thg tx lk tl pa pb ins (wd 0)) tl pb (usd ins s) (s + 1))) i = true → i < 8 := fun i hb => by
      rw [bt_ofS (bt_lt hb)] at hb
      unfold rdS at hb
      rw [List.any_eq_true] at hb
      obtain ⟨k, hk, hb⟩ := hb
      rw [List.mem_range] at hk
      rw [Bool.and_eq_true, Bool.and_eq_true] at hb
      have hr := hb.2.2
      unfold rdW at hr
      rw [Bool.and_eq_true, decide_eq_true_eq, decide_eq_true_eq] at hr
      rw [hr.2]
      exact hpb k (by omega)
    generalize ofS (rdS (thg tx lk tl pa pb ins (wd 0)) tl pb (usd ins s) (s + 1)) = R at hR
    refine zw.imp (P := fun z => spFix (rmD wd y R) (-2) z.1 ∧ z.2 = (K, iv1, rv, lv)) ?_ (fun z hz => ⟨⟨fun _ => hz.1, fun z => absurd hall z⟩, iv1, hz.2, f1⟩)
    unfold lX7_rooms_56
    refine zw.loop (fun t y1 => ∃ z, 1 ≤ z ∧ z + t = 9 ∧ y1 = ((K, iv1, rv, lv), b, y, R, nI z) ∧ srI (rmD wd y R) z 1) ?_ N 8 _ (by omega) ⟨1, by omega, by omega, rfl, fun j hj hd => by
      have hp : 0 < pcn 32 j := pcn_pos hd.1 (by omega)
      rcases Nat.eq_or_lt_of_le (show 1 ≤ pcn 32 j from hp) with z | z
      · exact Or.inr ⟨z, hd.1⟩
      · exact Or.inl z⟩
    rintro t ⟨S, x0, x1, x2, x3⟩ Kc ⟨z, hz1, hk, hy, gs⟩ ih
    cases hy
    dsimp only
    unfold fX7_rooms_56
    by_cases ht : t = 0
    · have : z = 9 := by omega
      subst this
      exact zw.t (by decide) (zw.s ⟨Or.inr ⟨rfl, gs.fin⟩, rfl⟩)
    · refine zw.f (nI_nlt (show z ≤ 8 by omega) (by decide)) ?_
      unfold lX7_rooms_66
      refine zw.loop (fun t2 y1 => ∃ m, 1 ≤ m ∧ m + t2 = 256 ∧ y1 = ((K, iv1, rv, lv), b, y, R, nI z, nI m) ∧ srI (rmD wd y R) z m) ?_ N 255 _ (by omega) ⟨1, by omega, by omega, rfl, gs⟩
      rintro t2 ⟨S, x0, x1, x2, x3, x4⟩ Kc2 ⟨m, hm1, hk2, hy2, gs3⟩ ih2
      cases hy2
      dsimp only
      unfold fX7_rooms_66 fX7_rooms_101
      by_cases ht2 : t2 = 0
      · have : m = 256 := by omega
        subst this
        refine zw.t (by decide) ?_
        exact ih (t - 1) _ (by omega) ⟨z + 1, by omega, by omega, by rw [nI_1 z], gs3.row 1 (fun j hd => hd.1)⟩
      · have hm256 : m < 256 := by omega
        refine zw.f (nI_nlt (show m ≤ 255 by omega) (by decide)) ?_
        refine zw.e2 (c_isPart (by omega)) ?_
        by_cases hpt : nI m &&& (y ^^^ (-1)) = 0 ∧ pcn 32 m = z
        · rw [if_pos hpt]
          refine zw.f (by decide) ?_
          refine zw.e (zrc_at hC.1) ?_
          refine zw.c2 (c_unlikeIn hC hWo hA1.2.2.1 hm1 hm256 (by omega)) ?_
          rintro r S ⟨e, hr⟩
          dsimp only at hr e
          subst e
          have hr2 := hr R hR
          by_cases hfx : enU wd (nI m) R
          · refine zw.t (hr2.mpr hfx) (zw.s ⟨Or.inl ⟨m, rfl, gs3.found hm256 ⟨hm1, hpt.1, hfx⟩ hpt.2⟩, rfl⟩)
          · refine zw.f (fun q => hfx (hr2.mp q)) ?_
            exact ih2 (t2 - 1) _ (by omega) ⟨m + 1, by omega, by omega, by rw [nI_1 m], gs3.next (fun z => hfx z.1.2.2)⟩
        · rw [if_neg hpt]
          refine zw.t rfl ?_
          exact ih2 (t2 - 1) _ (by omega) ⟨m + 1, by omega, by omega, by rw [nI_1 m], gs3.next (fun z => hpt ⟨z.1.2.1, z.2⟩)⟩
  · rw [if_neg h1]
    exact zw.t rfl (bad fun q => h1 q.1)
end C10
