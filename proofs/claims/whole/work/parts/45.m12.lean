/-! the model: wordsOf, reads, uses, bits -/
/-- the int of a set -/
def ofSn (P : Nat → Bool) : Nat → Int32
  | 0 => 0
  | n + 1 => if P n then ofSn P n ||| ((1 : Int32) <<< (nI n &&& 31)) else ofSn P n
def ofS (P : Nat → Bool) : Int32 := ofSn P 32
theorem ofSn_bt (P : Nat → Bool) : ∀ n, n ≤ 32 → ∀ i, i < 32 → bt (ofSn P n) i = (decide (i < n) && P i) := by
  intro n
  induction n with
  | zero => intro _ i _; rw [show ofSn P 0 = 0 from rfl, b_0]; simp
  | succ n ih =>
    intro hn i hi
    have h := ih (by omega) i hi
    rw [show ofSn P (n + 1) = if P n then ofSn P n ||| ((1 : Int32) <<< (nI n &&& 31)) else ofSn P n from rfl]
    cases hp : P n with
    | true =>
      rw [if_pos rfl, bt_set (by omega) hi, h]
      by_cases e : i = n
      · subst e; simp [hp]
      · have : (i < n + 1) = (i < n) := by apply propext; omega
        simp [e, this]
    | false =>
      rw [if_neg (by decide), h]
      by_cases e : i = n
      · subst e; simp [hp]
      · have : (i < n + 1) = (i < n) := by apply propext; omega
        simp [this]
theorem isS_ofS (P : Nat → Bool) : isS (ofS P) P := fun i hi => by
  rw [ofS, ofSn_bt P 32 (by omega) i hi]
  simp [hi]
theorem isS.of {x : Int32} {P : Nat → Bool} (h : isS x P) : x = ofS P := h.eq (isS_ofS P)
theorem ofS_cong {P Q : Nat → Bool} (h : ∀ i, i < 32 → P i = Q i) : ofS P = ofS Q := (isS_ofS P).eq (fun i hi => by rw [isS_ofS Q i hi, h i hi])
theorem bt_ofS {P : Nat → Bool} {i : Nat} (hi : i < 32) : bt (ofS P) i = P i := isS_ofS P i hi
/-- the words read by the first n steps of a set -/
def rdS (th : Nat → Option (List Int32)) (tl : Nat → Nat) (pb : Nat → Nat) (U : Nat → Bool) (n w : Nat) : Bool := (List.range n).any fun k => U k && ((th k).isSome && rdW tl pb k w)
theorem rdS_0 {th : Nat → Option (List Int32)} {tl pb : Nat → Nat} {U : Nat → Bool} {w : Nat} : rdS th tl pb U 0 w = false := rfl
theorem rdS_s {th : Nat → Option (List Int32)} {tl pb : Nat → Nat} {U : Nat → Bool} {n w : Nat} : rdS th tl pb U (n + 1) w = (rdS th tl pb U n w || (U n && ((th n).isSome && rdW tl pb n w))) := by
  simp [rdS, List.range_succ]
/-- the texts used -/
def utx (ins : Nat → List Nat) (U : Nat → Bool) (n t : Nat) : Bool := (List.range n).any fun k => U k && (ins k).contains t
theorem utx_s {ins : Nat → List Nat} {U : Nat → Bool} {n t : Nat} : utx ins U (n + 1) t = (utx ins U n t || (U n && (ins n).contains t)) := by
  simp [utx, List.range_succ]
theorem inR2 {x : Int32} (h : inR 2 x) : x = 0 ∨ x = 1 := by
  obtain ⟨k, hk, rfl⟩ := h.at (by decide)
  have : k = 0 ∨ k = 1 := by omega
  rcases this with rfl | rfl
  · exact Or.inl rfl
  · exact Or.inr rfl
section M12
variable {N b : Nat} {K : Nat → Option (Nat × Nat)} {iv : Nat → Nat → Int32} {rv : Nat → Nat → Option Nat} {lv : Nat → Nat → Int64}
variable {tp : List Int32} {nt : Nat} {tx : Nat → List Int32} {lk : Nat → Bool} {ns : Nat} {tl : Nat → Nat} {pa : Nat → Int32} {pb : Nat → Nat} {ins : Nat → List Nat} {wd : Nat → Nat → Int32}
/-- the set of steps that reads is asked about -/
def rdU (ins : Nat → List Nat) (s : Nat) (all : Bool) (k : Nat) : Bool := if all then usd ins s k else decide (k = s)
theorem m_wordsOf {r s : Nat} (all : Bool) (hL : mL b K rv) (hA : mA b iv tp nt tx lk ns tl pa pb ins wd) (hr : r < 8) (hs : s < ns) (hN : 3000 < N) :
    zw (fX8_wordsOf N (K, iv, rv, lv) b (nI r) (nI s) (if all then 1 else 0)) (fun q => q.1 = ofS (rdS (thg tx lk tl pa pb ins (wd r)) tl pb (rdU ins s all) (s + 1)) ∧ ∃ iv', q.2 = (K, iv', rv, lv) ∧ fM b [11, 12, 13, 14, 15] [18] iv iv') := by
  have hn := hA.2.2.2.2.1.1
  unfold fX8_wordsOf fX8_wordsOf_0
  refine m_tb (hf := 0) hL hA hr hs (by decide) hN (fun iv' f1 _ _ hS hH => ?_)
  have hA1 := hA.fr f1 (by decide) (by decide)
  have loop : ∀ x : Int32, isS x (rdU ins s all) → zw (fX8_wordsOf_26 N (K, iv', rv, lv) b (nI s) x) (fun q => q.1 = ofS (rdS (thg tx lk tl pa pb ins (wd r)) tl pb (rdU ins s all) (s + 1)) ∧ ∃ iv', q.2 = (K, iv', rv, lv) ∧ fM b [11, 12, 13, 14, 15] [18] iv iv') := by
    intro u hu
    unfold fX8_wordsOf_26 lX8_wordsOf_34
    refine zw.loop (fun m y => ∃ k v, k + m = s + 1 ∧ y = ((K, iv', rv, lv), b, nI s, u, v, nI k) ∧ isS v (rdS (thg tx lk tl pa pb ins (wd r)) tl pb (rdU ins s all) k)) ?_ N (s + 1) _ (by omega) ⟨0, 0, by omega, rfl, isS.zero fun i hi => rfl⟩
    rintro m ⟨S, x0, x2, x4, x5, x6⟩ Kc ⟨k, v, hk, hy, g⟩ ih
    cases hy
    dsimp only
    unfold fX8_wordsOf_34 fX8_wordsOf_63
    by_cases hm : m = 0
    · have : k = s + 1 := by omega
      subst this
      exact zw.t (nI_lt (by omega) (by omega)) (zw.s ⟨g.of, iv', rfl, f1⟩)
    · refine zw.f (nI_nlt (show k ≤ s by omega) (by omega)) ?_
      have huk := hu k (by omega)
      have step : ∀ y : Int32, isS y (fun w => rdU ins s all k && ((thg tx lk tl pa pb ins (wd r) k).isSome && rdW tl pb k w)) → zw (Kc ((K, iv', rv, lv), b, nI s, u, (x5 ||| y), (nI k + (1 : Int32)))) (fun q => q.1 = ofS (rdS (thg tx lk tl pa pb ins (wd r)) tl pb (rdU ins s all) (s + 1)) ∧ ∃ iv', q.2 = (K, iv', rv, lv) ∧ fM b [11, 12, 13, 14, 15] [18] iv iv') := fun y hy => ih (m - 1) _ (by omega) ⟨k + 1, _, by omega, by rw [nI_1 k], fun i hi => by rw [b_or, g i hi, hy i hi, rdS_s]⟩
      by_cases c : bt u k = true
      · refine zw.t ((shr_1 (by omega)).mpr c) ?_
        refine zw.e (zrc_at hL.o) ?_
        have h9 := hS k (by omega)
        rw [show 24 * 0 + k = k by omega] at h9
        refine zw.c2 (m_readBy hL hA1.2.1 hA.2.2.2.2.1 (show k < ns by omega) h9 (fun L e => (thg_good hA (fun w hw => hA.2.2.2.2.2 r w hr hw) (show k < ns by omega) e).1)) ?_
        rintro v S ⟨rfl, h2⟩
        refine step v (fun i hi => ?_)
        rw [h2 i hi, ← huk, c]
        rfl
      · refine zw.f (fun q => c ((shr_1 (by omega)).mp q)) (step 0 (isS.zero fun i hi => ?_))
        rw [← huk, Bool.eq_false_iff.mpr c]
        rfl
  cases all with
  | false =>
    refine zw.t rfl (loop _ fun i hi => ?_)
    rw [bt_one (by omega) hi]
    rfl
  | true =>
    refine zw.f (by decide) ?_
    refine zw.e (zrc_at hL.o) ?_
    refine zw.c2 (m_usedBy hL hA1.2.1 hA.2.2.2.2.1 hA.2.2.2.1.2.1 hs (by omega)) ?_
    rintro v S ⟨rfl, h2⟩
    exact loop v h2
theorem m_reads {x y v : Int32} (hL : mL b K rv) (hA : mA b iv tp nt tx lk ns tl pa pb ins wd) (hN : 3000 < N) :
    zw (fX8_reads N (K, iv, rv, lv) b x y v) (fun q => q.1 = (if inR 8 x ∧ inR ns y ∧ inR 2 v then ofS (rdS (thg tx lk tl pa pb ins (wd x.toNatClampNeg)) tl pb (rdU ins y.toNatClampNeg (decide (v = 1))) (y.toNatClampNeg + 1)) else -1) ∧ ∃ iv', q.2 = (K, iv', rv, lv) ∧ fM b [11, 12, 13, 14, 15] [18] iv iv') := by
  have hn := hA.2.2.2.2.1.1
  unfold fX8_reads fX8_reads_0 fX8_reads_43 fX8_reads_44 fX8_reads_37 fX8_reads_44
  refine zw.e2 m_isRoom ?_
  by_cases h1 : inR 8 x
  · rw [if_pos h1]
    refine zw.f (by decide) ?_
    refine zw.e (zrc_at hL.o) ?_
    refine zw.e2 (m_isStep hL hA.2.1 hn) ?_
    by_cases h2 : inR ns y
    · rw [if_pos h2]
      refine zw.f (by decide) ?_
      refine zw.e2 (m_inR (n := 1) (by decide)) ?_
      by_cases h3 : inR 2 v
      · rw [if_pos h3]
        refine zw.f (by decide) ?_
        obtain ⟨r, hr, rfl⟩ := h1.at (by decide)
        obtain ⟨s, hs, rfl⟩ := h2.at (by omega)
        rw [if_pos (show _ ∧ _ ∧ _ from ⟨h1, h2, h3⟩), nI_clamp (show r < 2 ^ 31 by omega), nI_clamp (show s < 2 ^ 31 by omega)]
        rcases inR2 h3 with rfl | rfl
        · refine zw.f (by decide) ?_
          refine zw.e (zrc_at hL.o) ?_
          refine zw.c2 (m_wordsOf false hL hA hr hs hN) ?_
          rintro z S ⟨h4, iv', rfl, f⟩
          exact zw.s ⟨h4, iv', rfl, f⟩
        · refine zw.t rfl ?_
          refine zw.e (zrc_at hL.o) ?_
          refine zw.c2 (m_wordsOf true hL hA hr hs hN) ?_
          rintro z S ⟨h4, iv', rfl, f⟩
          exact zw.s ⟨h4, iv', rfl, f⟩
      · rw [if_neg h3]
        exact zw.t rfl (zw.s ⟨by rw [if_neg (fun q => h3 q.2.2)], iv, rfl, fM.rf⟩)
    · rw [if_neg h2]
      exact zw.t rfl (zw.s ⟨by rw [if_neg (fun q => h2 q.2.1)], iv, rfl, fM.rf⟩)
  · rw [if_neg h1]
    exact zw.t rfl (zw.s ⟨by rw [if_neg (fun q => h1 q.1)], iv, rfl, fM.rf⟩)
def spUses (ins : Nat → List Nat) (s : Nat) (v : Int32) : Int32 := if v = 0 then ofS (usd ins s) else ofS (utx ins (usd ins s) (s + 1))
theorem cont_take {L : List Nat} {j t : Nat} (hj : j < L.length) : (L.take (j + 1)).contains t = ((L.take j).contains t || decide (L.getD j 0 = t)) := by
  have e : L.take (j + 1) = L.take j ++ [L.getD j 0] := by
    rw [List.take_add_one, List.getD_eq_getElem?_getD, List.getElem?_eq_getElem hj]
    rfl
  rw [e]
  generalize L.take j = A
  generalize L.getD j 0 = z
  by_cases e : z = t
  · subst e; simp
  · have e2 : ¬ t = z := fun q => e q.symm
    simp [e, e2]
theorem m_uses {x y : Int32} (hL : mL b K rv) (hA : mA b iv tp nt tx lk ns tl pa pb ins wd) (hN : 3000 < N) :
    zw (fX8_uses N (K, iv, rv, lv) b x y) (fun q => q.1 = (if inR ns x ∧ inR 2 y then spUses ins x.toNatClampNeg y else -1) ∧ q.2 = (K, iv, rv, lv)) := by
  obtain ⟨hT, hP, hW, hdT, hdP, hdW⟩ := id hA
  have hn := hdP.1
  have hnt := hdT.2.1
  unfold fX8_uses fX8_uses_0 fX8_uses_17
  refine zw.e (zrc_at hL.o) ?_
  refine zw.e2 (m_isStep hL hP hn) ?_
  by_cases h1 : inR ns x
  · rw [if_pos h1]
    refine zw.f (by decide) ?_
    refine zw.e2 (m_inR (n := 1) (by decide)) ?_
    by_cases h2 : inR 2 y
    · rw [if_pos h2]
      refine zw.f (by decide) ?_
      obtain ⟨s, hs, rfl⟩ := h1.at (by omega)
      rw [if_pos ⟨h1, h2⟩, nI_clamp (show s < 2 ^ 31 by omega)]
      refine zw.e (zrc_at hL.o) ?_
      refine zw.c2 (m_usedBy hL hP hdP hnt hs (by omega)) ?_
      rintro u S ⟨rfl, hu⟩
      rcases inR2 h2 with rfl | rfl
      · exact zw.t rfl (zw.s ⟨hu.of, rfl⟩)
      · refine zw.f (by decide) ?_
        show zw _ (fun q : Int32 × zS => q.1 = ofS (utx ins (usd ins s) (s + 1)) ∧ q.2 = (K, iv, rv, lv))
        unfold lX8_uses_37
        refine zw.loop (fun m y => ∃ k v, k + m = s + 1 ∧ y = ((K, iv, rv, lv), b, nI s, u, v, nI k) ∧ isS v (utx ins (usd ins s) k)) ?_ N (s + 1) _ (by omega) ⟨0, 0, by omega, rfl, isS.zero fun i hi => rfl⟩
        rintro m ⟨S, x0, x1, x3, x4, x5⟩ Kc ⟨k, v, hk, hy, g⟩ ih
        cases hy
        dsimp only
        unfold fX8_uses_37
        by_cases hm : m = 0
        · have : k = s + 1 := by omega
          subst this
          exact zw.t (nI_lt (by omega) (by omega)) (zw.s ⟨g.of, rfl⟩)
        · refine zw.f (nI_nlt (show k ≤ s by omega) (by omega)) ?_
          have hl4 := (hdP.2 k (by omega)).2.2.2.1
          have huk := hu k (by omega)
          unfold lX8_uses_46
          refine zw.loop (fun m2 z => ∃ j v2, j + m2 = (ins k).length ∧ z = ((K, iv, rv, lv), b, nI s, u, v2, nI k, nI j) ∧ isS v2 (fun t => utx ins (usd ins s) k t || (usd ins s k && ((ins k).take j).contains t))) ?_ N (ins k).length _ (by omega) ⟨0, x4, by omega, rfl, fun i hi => by rw [g i hi]; simp⟩
          rintro m2 ⟨S, y0, y1, y3, y4, y5, y6⟩ Kc2 ⟨j, v2, hj, hy2, g2⟩ ih2
          cases hy2
          dsimp only
          unfold fX8_uses_46 fX8_uses_104 fX8_uses_105
          refine zw.e (zgr_at hL.o hL.r_inputs) ?_
          refine zw.e (zil_v hL.k_inputs rfl (by omega) (by decide) (hP.2.2.2.2.1 k (by omega))) ?_
          by_cases hm2 : m2 = 0
          · refine zw.t (nI_le (by omega) (by omega)) (ih (m - 1) _ (by omega) ⟨k + 1, _, by omega, by rw [nI_1 k], fun i hi => ?_⟩)
            rw [g2 i hi, utx_s, List.take_of_length_le (by omega)]
          · refine zw.f (nI_ge (show j < (ins k).length by omega) (by omega)) ?_
            have hix : (4 : Int32) * nI k + nI j = nI (4 * k + j) := by rw [← nI_add, ← nI_mul]; rfl
            have hval := hP.2.2.2.2.2 k (by omega) j (by omega)
            have hmem : (ins k).getD j 0 ∈ ins k := getD_mem (by omega)
            have step : ∀ z : Int32, isS z (fun t => usd ins s k && decide ((ins k).getD j 0 = t)) → zw (Kc2 ((K, iv, rv, lv), b, nI s, u, (y4 ||| z), nI k, (nI j + (1 : Int32)))) (fun q => q.1 = ofS (utx ins (usd ins s) (s + 1)) ∧ q.2 = (K, iv, rv, lv)) := fun z hz => ih2 (m2 - 1) _ (by omega) ⟨j + 1, _, by omega, by rw [nI_1 j], fun i hi => by rw [b_or, g2 i hi, hz i hi]; dsimp only; rw [cont_take (show j < (ins k).length by omega)]; cases usd ins s k <;> cases utx ins (usd ins s) k i <;> simp⟩
            by_cases c : bt u k = true
            · refine zw.t ((shr_1 (by omega)).mpr c) ?_
              refine zw.e (zgr_at hL.o hL.r_input) ?_
              refine zw.e (zil_v hL.k_input hix (by omega) (by decide) hval) ?_
              rcases (hdP.2 k (by omega)).2.2.2.2 _ hmem with hlt | ⟨hge, hlt⟩
              · refine zw.f (nI_ge (show (ins k).getD j 0 < 100 by omega) (by decide)) ?_
                refine zw.e (zgr_at hL.o hL.r_input) ?_
                refine zw.e (zil_v hL.k_input hix (by omega) (by decide) hval) ?_
                refine step _ (fun i hi => ?_)
                rw [bt_one (by omega) hi, ← huk, c]
                by_cases e : (ins k).getD j 0 = i
                · rw [e]; simp
                · have : ¬ i = (ins k).getD j 0 := fun q => e q.symm
                  simp only [this, e]; rfl
              · refine zw.t (nI_le hge (by omega)) (step 0 (isS.zero fun i hi => ?_))
                rw [decide_eq_false (by omega)]
                cases usd ins s k <;> rfl
            · refine zw.f (fun q => c ((shr_1 (by omega)).mp q)) (step 0 (isS.zero fun i hi => ?_))
              rw [← huk, Bool.eq_false_iff.mpr c]
              rfl
    · rw [if_neg h2]
      exact zw.t rfl (zw.s ⟨by rw [if_neg (fun q => h2 q.2)], rfl⟩)
  · rw [if_neg h1]
    exact zw.t rfl (zw.s ⟨by rw [if_neg (fun q => h1 q.1)], rfl⟩)
end M12
