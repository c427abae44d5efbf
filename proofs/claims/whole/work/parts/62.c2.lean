/-! the class: the plan: step, need, uses -/
section C2
variable {N b : Nat} {K : Nat → Option (Nat × Nat)} {iv : Nat → Nat → Int32} {rv : Nat → Nat → Option Nat} {lv : Nat → Nat → Int64} {S : zS}
variable {tp : List Int32} {nt : Nat} {tx : Nat → List Int32} {lk : Nat → Bool} {ns : Nat} {tl : Nat → Nat} {pa : Nat → Int32} {pb : Nat → Nat} {ins : Nat → List Nat}
/-- the class's plan -/
def cP (b : Nat) (iv : Nat → Nat → Int32) (ns : Nat) (tl : Nat → Nat) (pa : Nat → Int32) (pb : Nat → Nat) (ins : Nat → List Nat) : Prop :=
  iv (b + 45) 8 = nI ns ∧ (∀ s, s < ns → iv (b + 46) s = nI (tl s)) ∧ (∀ s, s < ns → iv (b + 47) s = pa s) ∧ (∀ s, s < ns → iv (b + 48) s = nI (pb s)) ∧ (∀ s, s < ns → iv (b + 50) s = nI (ins s).length) ∧ (∀ s, s < ns → ∀ k, k < (ins s).length → iv (b + 49) (4 * s + k) = nI ((ins s).getD k 0)) ∧ (∀ s, s < ns → isS (iv (b + 51) s) (usd ins s)) ∧ (∀ s, s < ns → isS (iv (b + 52) s) (utx ins (usd ins s) (s + 1))) ∧ (∀ s, s < ns → isS (iv (b + 53) s) (uwd ins tl pb s)) ∧ (∀ k, k < 24 → (bt (iv (b + 45) 9) k = true ↔ isTk ns ins k)) ∧ ∀ s, ns ≤ s → s < 24 → iv (b + 50) s = 0 ∧ iv (b + 52) s = 0
abbrev aPla (b : Nat) : Nat → Prop := fun a => b + 45 ≤ a ∧ a < b + 54
theorem cP.fr {iv' : Nat → Nat → Int32} {A : Nat → Prop} (h : cP b iv ns tl pa pb ins) (hf : fQ A iv iv') (hA : ∀ a, b + 45 ≤ a → a < b + 54 → ¬ A a) : cP b iv' ns tl pa pb ins := by
  have e : ∀ a j, b + 45 ≤ a → a < b + 54 → iv' a j = iv a j := fun a j h1 h2 => hf a j (hA a h1 h2)
  unfold cP
  simp only [e (b + 45) _ (by omega) (by omega), e (b + 46) _ (by omega) (by omega), e (b + 47) _ (by omega) (by omega), e (b + 48) _ (by omega) (by omega), e (b + 49) _ (by omega) (by omega), e (b + 50) _ (by omega) (by omega), e (b + 51) _ (by omega) (by omega), e (b + 52) _ (by omega) (by omega), e (b + 53) _ (by omega) (by omega)]
  exact h
theorem c_isStep {x : Int32} (hC : cTop b K rv) (hL : cPla b K rv) (hP : iv (b + 45) 8 = nI ns) : fX7_isStep N (K, iv, rv, lv) b x = some (if inR ns x then 1 else 0, (K, iv, rv, lv)) := by
  unfold fX7_isStep fX7_isStep_0 fX7_isStep_19 fX7_isStep_20
  by_cases h0 : x < 0
  · rw [if_pos h0, if_neg (fun q => q.1 h0)]
    rfl
  · rw [if_neg h0, zgr_at hC.1 hC.2.2.1, Option.bind_some, zgi_v hL.1 hP, Option.bind_some]
    by_cases h1 : nI ns ≤ x
    · rw [if_pos h1, if_neg (fun q => Int32.not_lt.mpr h1 q.2)]
      rfl
    · rw [if_neg h1, if_pos ⟨h0, Int32.not_le.mp h1⟩]
      rfl
theorem c_ownWord {s t y : Nat} (hL : cPla b K rv) (hs : s < 24) (h1 : iv (b + 46) s = nI t) (h2 : iv (b + 48) s = nI y) (ht : t < 8) (hy : y < 8) : zw (fX4_ownWord N (K, iv, rv, lv) (b + 45) (nI s)) (fun q => q.2 = (K, iv, rv, lv) ∧ isS q.1 (fun w => decide (t = 1 ∨ t = 2 ∨ t = 5) && decide (w = y))) := by
  unfold fX4_ownWord fX4_ownWord_0 fX4_ownWord_22 fX4_ownWord_34
  refine zw.e (zgr_at hL.1 hL.r_tools) ?_
  refine zw.e (zil_v hL.k_tools rfl hs (by decide) h1) ?_
  have yes : (t = 1 ∨ t = 2 ∨ t = 5) → zw ((zgr (K, iv, rv, lv) (b + 45) 4 2).bind fun v1 => (zil (K, iv, rv, lv) v1 (nI s)).bind fun v2 => some ((1 : Int32) <<< (v2 &&& 31), ((K, iv, rv, lv) : zS))) (fun q => q.2 = (K, iv, rv, lv) ∧ isS q.1 (fun w => decide (t = 1 ∨ t = 2 ∨ t = 5) && decide (w = y))) := by
    intro h
    refine zw.e (zgr_at hL.1 hL.r_bs) ?_
    refine zw.e (zil_v hL.k_bs rfl hs (by decide) h2) ?_
    refine zw.s ⟨rfl, fun i hi => ?_⟩
    rw [bt_one (by omega) hi]
    dsimp only
    rw [decide_eq_true h, Bool.true_and]
  have lit : ∀ n : Nat, n < 8 → (nI t = nI n ↔ t = n) := fun n hn => nI_eq (by omega) (by omega)
  by_cases e1 : t = 1
  · exact zw.t ((lit 1 (by decide)).mpr e1) (yes (Or.inl e1))
  · refine zw.f (fun q => e1 ((lit 1 (by decide)).mp q)) ?_
    by_cases e2 : t = 2
    · exact zw.t ((lit 2 (by decide)).mpr e2) (yes (Or.inr (Or.inl e2)))
    · refine zw.f (fun q => e2 ((lit 2 (by decide)).mp q)) ?_
      by_cases e5 : t = 5
      · exact zw.t ((lit 5 (by decide)).mpr e5) (yes (Or.inr (Or.inr e5)))
      · refine zw.f (fun q => e5 ((lit 5 (by decide)).mp q)) (zw.s ⟨rfl, isS.zero fun i hi => ?_⟩)
        rw [decide_eq_false (fun q => q.elim e1 (fun q => q.elim e2 e5)), Bool.false_and]
theorem c_addStep {x v : Nat} {y : Int32} (hL : cPla b K rv) (hP : cP b iv ns tl pa pb ins) (hok : okP nt ns ins) (hlt : ns < 24) (hx : x < 8) (hv : v < 8) :
    zw (fX4_addStep N (K, iv, rv, lv) (b + 45) (nI x) y (nI v)) (fun q => q.1 = nI ns ∧ ∃ iv', q.2 = (K, iv', rv, lv) ∧ fQ (aPla b) iv iv' ∧ cP b iv' (ns + 1) (upB tl ns x) (upB pa ns y) (upB pb ns v) (upB ins ns [])) := by
  obtain ⟨a1, a2, a3, a4, a5, a6, a7, a8, a9, a10, a11⟩ := hP
  unfold fX4_addStep fX4_addStep_0
  refine zw.e (zgi_v hL.1 a1) ?_
  refine zw.e (zgr_at hL.1 hL.r_tools) ?_
  refine zw.e (zis_v hL.k_tools rfl hlt (by decide)) ?_
  refine zw.e (zgr_at hL.1 hL.r_as) ?_
  refine zw.e (zis_v hL.k_as rfl hlt (by decide)) ?_
  refine zw.e (zgr_at hL.1 hL.r_bs) ?_
  refine zw.e (zis_v hL.k_bs rfl hlt (by decide)) ?_
  refine zw.e (zgr_at hL.1 hL.r_used) ?_
  refine zw.e (zis_v hL.k_used rfl hlt (by decide)) ?_
  refine zw.e (zgr_at hL.1 hL.r_usedWords) ?_
  refine zw.e (zrc_at hL.1) ?_
  refine zw.c2 (c_ownWord (t := x) (y := v) hL hlt (by simp [zu]) (by simp [zu]) hx hv) ?_
  rintro ow S ⟨rfl, how⟩
  refine zw.e (zis_v hL.k_usedWords rfl hlt (by decide)) ?_
  refine zw.e (zgi_v (x := nI ns) hL.1 (by simp [zu]; exact a1)) ?_
  refine zw.e (zpi_at hL.1) ?_
  refine zw.s ⟨rfl, _, rfl, (((((fQ.rf.put ⟨by omega, by omega⟩ _ _).put ⟨by omega, by omega⟩ _ _).put ⟨by omega, by omega⟩ _ _).put ⟨by omega, by omega⟩ _ _).put ⟨by omega, by omega⟩ _ _).put ⟨by omega, by omega⟩ _ _, ?_⟩
  refine ⟨by rw [zu_s, nI_1], fun s hs => ?_, fun s hs => ?_, fun s hs => ?_, fun s hs => ?_, fun s hs k hk => ?_, fun s hs => ?_, fun s hs => ?_, fun s hs => ?_, fun k hk => ?_, fun s hs h24 => ?_⟩
  · by_cases e : s = ns
    · rw [e, upB_eq]; simp [zu]
    · rw [upB_ne e, ← a2 s (by omega)]; simp [zu, e]
  · by_cases e : s = ns
    · rw [e, upB_eq]; simp [zu]
    · rw [upB_ne e, ← a3 s (by omega)]; simp [zu, e]
  · by_cases e : s = ns
    · rw [e, upB_eq]; simp [zu]
    · rw [upB_ne e, ← a4 s (by omega)]; simp [zu, e]
  · by_cases e : s = ns
    · rw [e, upB_eq]; simp [zu]; exact (a11 ns (Nat.le_refl _) hlt).1
    · rw [upB_ne e, ← a5 s (by omega)]; simp [zu]
  · by_cases e : s = ns
    · rw [e, upB_eq] at hk; cases hk
    · rw [upB_ne e] at hk ⊢
      rw [← a6 s (by omega) k hk]; simp [zu]
  · by_cases e : s = ns
    · rw [e]
      intro i hi
      rw [pn_self]
      simp only [zu, Nat.add_left_cancel_iff]
      simp
      rw [bt_one (by omega) hi]
    · intro i hi
      rw [pn_usd (by omega), ← a7 s (by omega) i hi]
      simp [zu, e]
  · by_cases e : s = ns
    · rw [e]
      intro i hi
      rw [pn_utxs]
      have : iv (b + 52) ns = 0 := (a11 ns (Nat.le_refl _) hlt).2
      simp [zu, this, b_0]
    · intro i hi
      rw [pn_utx (by omega), ← a8 s (by omega) i hi]
      simp [zu]
  · by_cases e : s = ns
    · rw [e]
      intro i hi
      have hh := how i hi
      dsimp only at hh
      rw [pn_uwds, ← hh]
      simp [zu]
    · intro i hi
      rw [pn_uwd (by omega), ← a9 s (by omega) i hi]
      simp [zu, e]
  · rw [pn_tk, ← a10 k hk]
    simp [zu]
  · obtain ⟨g1, g2⟩ := a11 s (by omega) h24
    constructor
    · rw [← g1]; simp [zu]
    · rw [← g2]; simp [zu]
theorem c_step {x y v : Int32} (hC : cTop b K rv) (hL : cPla b K rv) (hP : cP b iv ns tl pa pb ins) (hd : dP nt ns tl pa pb ins) (hnt : nt ≤ 20) :
    zw (fX7_step N (K, iv, rv, lv) b x y v) (fun q => ∃ iv', q.2 = (K, iv', rv, lv) ∧ fQ (aPla b) iv iv' ∧ if inR 8 x ∧ inR 256 y ∧ inR 8 v then (if ns = 24 then q.1 = -3 ∧ cP b iv' ns tl pa pb ins else q.1 = nI ns ∧ cP b iv' (ns + 1) (upB tl ns x.toNatClampNeg) (upB pa ns y) (upB pb ns v.toNatClampNeg) (upB ins ns [])) else q.1 = -1 ∧ cP b iv' ns tl pa pb ins) := by
  have hn := hd.1
  have i7 : ∀ {z : Int32}, (¬ z < 0 ∧ ¬ (7 : Int32) < z) ↔ inR 8 z := in_lit (n := 7) (by decide)
  have i255 : ∀ {z : Int32}, (¬ z < 0 ∧ ¬ (255 : Int32) < z) ↔ inR 256 z := in_lit (n := 255) (by decide)
  have bad : ¬ (inR 8 x ∧ inR 256 y ∧ inR 8 v) → zw (some ((-1 : Int32), ((K, iv, rv, lv) : zS))) (fun q => ∃ iv', q.2 = (K, iv', rv, lv) ∧ fQ (aPla b) iv iv' ∧ if inR 8 x ∧ inR 256 y ∧ inR 8 v then (if ns = 24 then q.1 = -3 ∧ cP b iv' ns tl pa pb ins else q.1 = nI ns ∧ cP b iv' (ns + 1) (upB tl ns x.toNatClampNeg) (upB pa ns y) (upB pb ns v.toNatClampNeg) (upB ins ns [])) else q.1 = -1 ∧ cP b iv' ns tl pa pb ins) := fun h => zw.s ⟨iv, rfl, fQ.rf, by rw [if_neg h]; exact ⟨rfl, hP⟩⟩
  unfold fX7_step fX7_step_0 fX7_step_31
  refine zw.it (fun c => bad fun q => q.1.1 c) (fun c1 => ?_)
  refine zw.it (fun c => bad fun q => (i7.mpr q.1).2 c) (fun c2 => ?_)
  refine zw.it (fun c => bad fun q => q.2.1.1 c) (fun c3 => ?_)
  refine zw.it (fun c => bad fun q => (i255.mpr q.2.1).2 c) (fun c4 => ?_)
  refine zw.it (fun c => bad fun q => q.2.2.1 c) (fun c5 => ?_)
  refine zw.it (fun c6 => ?_) (fun c => bad fun q => c q.2.2.2)
  have h1 : inR 8 x := i7.mp ⟨c1, c2⟩
  have h2 : inR 256 y := i255.mp ⟨c3, c4⟩
  have h3 : inR 8 v := ⟨c5, c6⟩
  refine zw.e (zgr_at hC.1 hC.2.2.1) ?_
  refine zw.e (zgi_v hL.1 hP.1) ?_
  by_cases hf : ns = 24
  · refine zw.f (by rw [hf]; decide) (zw.s ⟨iv, rfl, fQ.rf, ?_⟩)
    rw [if_pos ⟨h1, h2, h3⟩, if_pos hf]
    exact ⟨rfl, hP⟩
  · refine zw.t (nI_lt (show ns < 24 by omega) (by decide)) ?_
    refine zw.e (zgr_at hC.1 hC.2.2.1) ?_
    refine zw.e (zrc_at hL.1) ?_
    obtain ⟨kx, hkx, rfl⟩ := h1.at (by decide)
    obtain ⟨kv, hkv, rfl⟩ := h3.at (by decide)
    refine zw.c2 (c_addStep hL hP (hd.ok hnt) (show ns < 24 by omega) hkx hkv) ?_
    rintro r S ⟨hr, iv', rfl, f1, g1⟩
    refine zw.s ⟨iv', rfl, f1, ?_⟩
    rw [if_pos ⟨h1, h2, h3⟩, if_neg hf, nI_clamp (show kx < 2 ^ 31 by omega), nI_clamp (show kv < 2 ^ 31 by omega)]
    exact ⟨hr, g1⟩
theorem c_isInputFor {s : Nat} {y : Int32} (hC : cTop b K rv) (hL : cTex b K rv) (hT : cT b iv tp nt tx lk) (hs : s < 24) : fX7_isInputFor N (K, iv, rv, lv) b (nI s) y = some (if inR nt y ∨ (¬ y < 100 ∧ y < nI (100 + s)) then 1 else 0, (K, iv, rv, lv)) := by
  unfold fX7_isInputFor fX7_isInputFor_0 fX7_isInputFor_22 fX7_isInputFor_26 fX7_isInputFor_27
  rw [zrc_at hC.1, Option.bind_some, c_isText hC hL hT]
  simp only [zb2, Option.bind_some]
  by_cases h : inR nt y
  · rw [if_pos h, if_pos (Or.inl h)]
    rfl
  · rw [if_neg h]
    simp only [if_true]
    rw [show (100 : Int32) + nI s = nI (100 + s) from nI_add 100 s]
    by_cases h1 : y < 100
    · rw [if_pos h1, if_neg (fun q => q.elim h (fun q => q.1 h1))]
      rfl
    · rw [if_neg h1]
      by_cases h2 : nI (100 + s) ≤ y
      · rw [if_pos h2, if_neg (fun q => q.elim h (fun q => Int32.not_lt.mpr h2 q.2))]
        rfl
      · rw [if_neg h2, if_pos (Or.inr ⟨h1, Int32.not_le.mp h2⟩)]
        rfl
theorem ix4 (s k : Nat) : nI s * (4 : Int32) + nI k = nI (4 * s + k) := by rw [show (4 : Int32) = nI 4 from rfl, nI_mul, nI_add, Nat.mul_comm]
theorem ins_up {s k : Nat} {i : Nat} (hk : k < (ins s ++ [i]).length) : (ins s ++ [i]).getD k 0 = if k = (ins s).length then i else (ins s).getD k 0 := by
  rw [List.length_append] at hk
  simp only [List.length_cons, List.length_nil] at hk
  by_cases e : k = (ins s).length
  · rw [if_pos e, e]; simp
  · rw [if_neg e]
    simp only [List.getD_eq_getElem?_getD, List.getElem?_append_left (show k < (ins s).length by omega)]
theorem c_addInput {s i : Nat} (hL : cPla b K rv) (hP : cP b iv ns tl pa pb ins) (hd : dP nt ns tl pa pb ins) (hnt : nt ≤ 20) (hs : s < ns) (hi : i < nt ∨ (100 ≤ i ∧ i < 100 + s)) (h4 : (ins s).length < 4) (ht : ¬ isTk ns ins s) :
    zw (fX4_addInput N (K, iv, rv, lv) (b + 45) (nI s) (nI i)) (fun q => q.1 = nI ((ins s).length + 1) ∧ ∃ iv', q.2 = (K, iv', rv, lv) ∧ fQ (aPla b) iv iv' ∧ cP b iv' ns tl pa pb (upB ins s (ins s ++ [i]))) := by
  have hn := hd.1
  have hok := hd.ok hnt
  obtain ⟨a1, a2, a3, a4, a5, a6, a7, a8, a9, a10, a11⟩ := hP
  unfold fX4_addInput fX4_addInput_0 fX4_addInput_109
  refine zw.e (zgr_at hL.1 hL.r_inputs) ?_
  refine zw.e (zgr_at hL.1 hL.r_inputCount) ?_
  refine zw.e (zil_v hL.k_inputCount rfl (by omega) (by decide) (a5 s hs)) ?_
  refine zw.e (zis_v (j := 4 * s + (ins s).length) hL.k_inputs (ix4 _ _) (by omega) (by decide)) ?_
  refine zw.e (zgr_at hL.1 hL.r_inputCount) ?_
  refine zw.e (zil_v (x := nI (ins s).length) hL.k_inputCount rfl (by omega) (by decide) (by rw [zu_o (by omega)]; exact a5 s hs)) ?_
  refine zw.e (zis_v hL.k_inputCount rfl (by omega) (by decide)) ?_
  have m4 : ∀ j k, j < ns → k < (ins j).length → 4 * j + k = 4 * s + (ins s).length → j = s ∧ k = (ins s).length := fun j k hj hk e => by
    have := (hd.2 j hj).2.2.2.1
    omega
  have l49 : ∀ j, j < ns → ∀ k, k < (upB ins s (ins s ++ [i]) j).length → (if 4 * j + k = 4 * s + (ins s).length then nI i else iv (b + 49) (4 * j + k)) = nI ((upB ins s (ins s ++ [i]) j).getD k 0) := by
    intro j hj k hk
    by_cases e : j = s
    · rw [e, upB_eq] at hk ⊢
      rw [ins_up hk]
      by_cases e2 : k = (ins s).length
      · rw [if_pos (by omega), if_pos e2]
      · rw [if_neg (by omega), if_neg e2]
        rw [List.length_append] at hk
        simp only [List.length_cons, List.length_nil] at hk
        exact a6 s hs k (by omega)
    · rw [upB_ne e] at hk ⊢
      have := (hd.2 j hj).2.2.2.1
      rw [if_neg (by omega)]
      exact a6 j hj k hk
  have l50 : ∀ j, j < ns → (if j = s then nI (ins s).length + 1 else iv (b + 50) j) = nI (upB ins s (ins s ++ [i]) j).length := by
    intro j hj
    by_cases e : j = s
    · rw [if_pos e, e, upB_eq, nI_1, List.length_append]
      rfl
    · rw [if_neg e, upB_ne e]
      exact a5 j hj
  by_cases h1 : 100 ≤ i
  · have hi2 : i < 100 + s := by omega
    have ei : nI i - (100 : Int32) = nI (i - 100) := nI_sub h1
    refine zw.t (nI_le h1 (by omega)) ?_
    rw [ei]
    refine zw.e (zgi_v (x := iv (b + 45) 9) hL.1 (by simp [zu])) ?_
    refine zw.e (zpi_at hL.1) ?_
    refine zw.e (zgr_at hL.1 hL.r_used) ?_
    refine zw.e (zil_v (x := iv (b + 51) s) hL.k_used rfl (by omega) (by decide) (by simp [zu])) ?_
    refine zw.e (zgr_at hL.1 hL.r_used) ?_
    refine zw.e (zil_v (x := iv (b + 51) (i - 100)) hL.k_used rfl (by omega) (by decide) (by simp [zu])) ?_
    refine zw.e (zis_v hL.k_used rfl (by omega) (by decide)) ?_
    refine zw.e (zgr_at hL.1 hL.r_usedTexts) ?_
    refine zw.e (zil_v (x := iv (b + 52) s) hL.k_usedTexts rfl (by omega) (by decide) (by simp [zu])) ?_
    refine zw.e (zgr_at hL.1 hL.r_usedTexts) ?_
    refine zw.e (zil_v (x := iv (b + 52) (i - 100)) hL.k_usedTexts rfl (by omega) (by decide) (by simp [zu])) ?_
    refine zw.e (zis_v hL.k_usedTexts rfl (by omega) (by decide)) ?_
    refine zw.e (zgr_at hL.1 hL.r_usedWords) ?_
    refine zw.e (zil_v (x := iv (b + 53) s) hL.k_usedWords rfl (by omega) (by decide) (by simp [zu])) ?_
    refine zw.e (zgr_at hL.1 hL.r_usedWords) ?_
    refine zw.e (zil_v (x := iv (b + 53) (i - 100)) hL.k_usedWords rfl (by omega) (by decide) (by simp [zu])) ?_
    refine zw.e (zis_v hL.k_usedWords rfl (by omega) (by decide)) ?_
    refine zw.e (zgr_at hL.1 hL.r_inputCount) ?_
    refine zw.e (zil_v (x := nI (ins s).length + 1) hL.k_inputCount rfl (by omega) (by decide) (by simp [zu])) ?_
    refine zw.s ⟨nI_1 _, _, rfl, (((((fQ.rf.put ⟨by omega, by omega⟩ _ _).put ⟨by omega, by omega⟩ _ _).put ⟨by omega, by omega⟩ _ _).put ⟨by omega, by omega⟩ _ _).put ⟨by omega, by omega⟩ _ _).put ⟨by omega, by omega⟩ _ _, ?_⟩
    refine ⟨by simp [zu]; exact a1, fun j hj => by simp [zu]; exact a2 j hj, fun j hj => by simp [zu]; exact a3 j hj, fun j hj => by simp [zu]; exact a4 j hj, fun j hj => ?_, fun j hj k hk => ?_, fun j hj => ?_, fun j hj => ?_, fun j hj => ?_, fun k hk => ?_, fun j hj h24 => ?_⟩
    · rw [← l50 j hj]; simp [zu]
    · rw [← l49 j hj k hk]; simp [zu]
    · intro k hk
      by_cases e : j = s
      · rw [e]
        simp only [zu, Nat.add_left_cancel_iff]
        simp
        rw [b_or, a7 s hs k hk, a7 (i - 100) (by omega) k hk]
        apply bool_iff
        rw [pi_usds hok hs hi ht, Bool.or_eq_true]
        exact ⟨fun q => q.imp id (fun q => ⟨h1, q⟩), fun q => q.imp id (fun q => q.2)⟩
      · rw [pi_usd hok hs hi ht j hj e, ← a7 j hj k hk]
        simp [zu, e]
    · intro k hk
      by_cases e : j = s
      · rw [e]
        simp only [zu, Nat.add_left_cancel_iff]
        simp
        rw [b_or, a8 s hs k hk, a8 (i - 100) (by omega) k hk]
        apply bool_iff
        rw [pi_utxs hok hs hi ht, Bool.or_eq_true]
        constructor
        · exact fun q => q.elim Or.inl (fun q => Or.inr (Or.inr ⟨h1, q⟩))
        · rintro (q | q | q)
          · exact Or.inl q
          · omega
          · exact Or.inr q.2
      · rw [pi_utx hok hs hi ht hj e, ← a8 j hj k hk]
        simp [zu, e]
    · intro k hk
      by_cases e : j = s
      · rw [e]
        simp only [zu, Nat.add_left_cancel_iff]
        simp
        rw [b_or, a9 s hs k hk, a9 (i - 100) (by omega) k hk]
        apply bool_iff
        rw [pi_uwds hok hs hi ht, Bool.or_eq_true]
        exact ⟨fun q => q.imp id (fun q => ⟨h1, q⟩), fun q => q.imp id (fun q => q.2)⟩
      · rw [pi_uwd hok hs hi ht hj e, ← a9 j hj k hk]
        simp [zu, e]
    · rw [pi_tk hok hs hi, ← a10 k hk]
      simp only [zu, Nat.add_left_cancel_iff]
      simp
      rw [bt_set (by omega) (by omega), Bool.or_eq_true, decide_eq_true_eq]
      exact ⟨fun q => q.imp id (fun q => ⟨h1, q⟩), fun q => q.imp id (fun q => q.2)⟩
    · obtain ⟨g1, g2⟩ := a11 j hj h24
      have e : ¬ j = s := by omega
      constructor
      · rw [← g1]; simp [zu, e]
      · rw [← g2]; simp [zu, e]
  · have hi2 : i < nt := by omega
    refine zw.f (nI_ge (show i < 100 by omega) (by decide)) ?_
    refine zw.e (zgr_at hL.1 hL.r_usedTexts) ?_
    refine zw.e (zil_v (x := iv (b + 52) s) hL.k_usedTexts rfl (by omega) (by decide) (by simp [zu])) ?_
    refine zw.e (zis_v hL.k_usedTexts rfl (by omega) (by decide)) ?_
    refine zw.e (zgr_at hL.1 hL.r_inputCount) ?_
    refine zw.e (zil_v (x := nI (ins s).length + 1) hL.k_inputCount rfl (by omega) (by decide) (by simp [zu])) ?_
    refine zw.s ⟨nI_1 _, _, rfl, ((fQ.rf.put ⟨by omega, by omega⟩ _ _).put ⟨by omega, by omega⟩ _ _).put ⟨by omega, by omega⟩ _ _, ?_⟩
    refine ⟨by simp [zu]; exact a1, fun j hj => by simp [zu]; exact a2 j hj, fun j hj => by simp [zu]; exact a3 j hj, fun j hj => by simp [zu]; exact a4 j hj, fun j hj => ?_, fun j hj k hk => ?_, fun j hj => ?_, fun j hj => ?_, fun j hj => ?_, fun k hk => ?_, fun j hj h24 => ?_⟩
    · rw [← l50 j hj]; simp [zu]
    · rw [← l49 j hj k hk]; simp [zu]
    · intro k hk
      have e2 : zu (zu (zu iv (b + 49) (4 * s + (ins s).length) (nI i)) (b + 50) s (nI (ins s).length + 1)) (b + 52) s (iv (b + 52) s ||| ((1 : Int32) <<< (nI i &&& 31))) (b + 51) j = iv (b + 51) j := by simp [zu]
      rw [e2, a7 j hj k hk]
      by_cases e : j = s
      · rw [e]
        apply bool_iff
        rw [pi_usds hok hs hi ht]
        exact ⟨Or.inl, fun q => q.elim id (fun q => absurd q.1 h1)⟩
      · rw [pi_usd hok hs hi ht j hj e]
    · intro k hk
      by_cases e : j = s
      · rw [e]
        simp only [zu, Nat.add_left_cancel_iff]
        simp
        rw [bt_set (by omega) hk, a8 s hs k hk]
        apply bool_iff
        rw [pi_utxs hok hs hi ht, Bool.or_eq_true, decide_eq_true_eq]
        constructor
        · exact fun q => q.elim Or.inl (fun q => Or.inr (Or.inl q))
        · rintro (q | q | q)
          · exact Or.inl q
          · exact Or.inr q
          · exact absurd q.1 h1
      · rw [pi_utx hok hs hi ht hj e, ← a8 j hj k hk]
        simp [zu, e]
    · intro k hk
      have e2 : zu (zu (zu iv (b + 49) (4 * s + (ins s).length) (nI i)) (b + 50) s (nI (ins s).length + 1)) (b + 52) s (iv (b + 52) s ||| ((1 : Int32) <<< (nI i &&& 31))) (b + 53) j = iv (b + 53) j := by simp [zu]
      rw [e2, a9 j hj k hk]
      by_cases e : j = s
      · rw [e]
        apply bool_iff
        rw [pi_uwds hok hs hi ht]
        exact ⟨Or.inl, fun q => q.elim id (fun q => absurd q.1 h1)⟩
      · rw [pi_uwd hok hs hi ht hj e]
    · rw [pi_tk hok hs hi, ← a10 k hk]
      have e2 : zu (zu (zu iv (b + 49) (4 * s + (ins s).length) (nI i)) (b + 50) s (nI (ins s).length + 1)) (b + 52) s (iv (b + 52) s ||| ((1 : Int32) <<< (nI i &&& 31))) (b + 45) 9 = iv (b + 45) 9 := by simp [zu]
      rw [e2]
      exact ⟨Or.inl, fun q => q.elim id (fun q => absurd q.1 h1)⟩
    · obtain ⟨g1, g2⟩ := a11 j hj h24
      have e : ¬ j = s := by omega
      constructor
      · rw [← g1]; simp [zu, e]
      · rw [← g2]; simp [zu, e]
theorem c_need {x y : Int32} (hC : cTop b K rv) (hX : cTex b K rv) (hL : cPla b K rv) (hT : cT b iv tp nt tx lk) (hdT : dT tp nt tx lk) (hP : cP b iv ns tl pa pb ins) (hd : dP nt ns tl pa pb ins) :
    zw (fX7_need N (K, iv, rv, lv) b x y) (fun q => ∃ iv', q.2 = (K, iv', rv, lv) ∧ fQ (aPla b) iv iv' ∧ ((¬ (inR ns x ∧ inpOk nt x.toNatClampNeg y) → q.1 = -1 ∧ cP b iv' ns tl pa pb ins) ∧ ((inR ns x ∧ inpOk nt x.toNatClampNeg y) → (isTk ns ins x.toNatClampNeg → q.1 = -2 ∧ cP b iv' ns tl pa pb ins) ∧ (¬ isTk ns ins x.toNatClampNeg → ((ins x.toNatClampNeg).length = 4 → q.1 = -3 ∧ cP b iv' ns tl pa pb ins) ∧ ((ins x.toNatClampNeg).length ≠ 4 → q.1 = nI ((ins x.toNatClampNeg).length + 1) ∧ cP b iv' ns tl pa pb (upB ins x.toNatClampNeg (ins x.toNatClampNeg ++ [y.toNatClampNeg]))))))) := by
  have hn := hd.1
  have hnt := hdT.2.1
  unfold fX7_need fX7_need_0 fX7_need_17
  refine zw.e (zrc_at hC.1) ?_
  refine zw.e2 (c_isStep hC hL hP.1) ?_
  by_cases h1 : inR ns x
  · rw [if_pos h1]
    refine zw.f (by decide) ?_
    obtain ⟨s, hs, rfl⟩ := h1.at (by omega)
    have hc : (nI s).toNatClampNeg = s := nI_clamp (by omega)
    rw [hc]
    refine zw.e (zrc_at hC.1) ?_
    refine zw.e2 (c_isInputFor hC hX hT (by omega)) ?_
    by_cases h2 : inpOk nt s y
    · rw [if_pos (show inR nt y ∨ (¬ y < 100 ∧ y < nI (100 + s)) from h2)]
      refine zw.f (by decide) ?_
      obtain ⟨i, rfl, hi⟩ := h2.at hnt (by omega)
      have hci : (nI i).toNatClampNeg = i := nI_clamp (by omega)
      rw [hci]
      refine zw.e (zgr_at hC.1 hC.2.2.1) ?_
      refine zw.e (zgi_at hL.1) ?_
      obtain ⟨a1, a2, a3, a4, a5, a6, a7, a8, a9, a10, a11⟩ := id hP
      by_cases ht : isTk ns ins s
      · refine zw.f (fun q => ?_) (zw.s ⟨iv, rfl, fQ.rf, fun q => absurd ⟨h1, h2⟩ q, fun _ => ⟨fun _ => ⟨rfl, hP⟩, fun q => absurd ht q⟩⟩)
        rw [ush_0 (by omega), (a10 s (by omega)).mpr ht] at q
        cases q
      · refine zw.t ((ush_0 (by omega)).mpr (Bool.eq_false_iff.mpr (fun q => ht ((a10 s (by omega)).mp q)))) ?_
        have hl4 := (hd.2 s hs).2.2.2.1
        refine zw.e (zgr_at hC.1 hC.2.2.1) ?_
        refine zw.e (zgr_at hL.1 hL.r_inputCount) ?_
        refine zw.e (zil_v hL.k_inputCount rfl (by omega) (by decide) (a5 s hs)) ?_
        by_cases h4 : (ins s).length = 4
        · refine zw.f (by rw [h4]; decide) (zw.s ⟨iv, rfl, fQ.rf, fun q => absurd ⟨h1, h2⟩ q, fun _ => ⟨fun q => absurd q ht, fun _ => ⟨fun _ => ⟨rfl, hP⟩, fun q => absurd h4 q⟩⟩⟩)
        · refine zw.t (nI_lt (show (ins s).length < 4 by omega) (by decide)) ?_
          refine zw.e (zgr_at hC.1 hC.2.2.1) ?_
          refine zw.e (zrc_at hL.1) ?_
          refine zw.c2 (c_addInput hL hP hd hnt hs hi (by omega) ht) ?_
          rintro r S ⟨hr, iv', rfl, f1, g1⟩
          exact zw.s ⟨iv', rfl, f1, fun q => absurd ⟨h1, h2⟩ q, fun _ => ⟨fun q => absurd q ht, fun _ => ⟨fun q => absurd q h4, fun _ => ⟨hr, g1⟩⟩⟩⟩
    · rw [if_neg (show ¬ (inR nt y ∨ (¬ y < 100 ∧ y < nI (100 + s))) from h2)]
      exact zw.t rfl (zw.s ⟨iv, rfl, fQ.rf, fun _ => ⟨rfl, hP⟩, fun q => absurd q.2 h2⟩)
  · rw [if_neg h1]
    exact zw.t rfl (zw.s ⟨iv, rfl, fQ.rf, fun _ => ⟨rfl, hP⟩, fun q => absurd q.1 h1⟩)
theorem c_uses {x y : Int32} (hC : cTop b K rv) (hL : cPla b K rv) (hP : cP b iv ns tl pa pb ins) (hd : dP nt ns tl pa pb ins) :
    zw (fX7_uses N (K, iv, rv, lv) b x y) (fun q => q.1 = (if inR ns x ∧ inR 2 y then spUses ins x.toNatClampNeg y else -1) ∧ q.2 = (K, iv, rv, lv)) := by
  have hn := hd.1
  unfold fX7_uses fX7_uses_0 fX7_uses_15 fX7_uses_42
  refine zw.e (zrc_at hC.1) ?_
  refine zw.e2 (c_isStep hC hL hP.1) ?_
  by_cases h1 : inR ns x
  · rw [if_pos h1]
    refine zw.f (by decide) ?_
    refine zw.e2 c_isBit ?_
    by_cases h2 : inR 2 y
    · rw [if_pos h2, if_pos (show inR ns x ∧ inR 2 y from ⟨h1, h2⟩)]
      refine zw.f (by decide) ?_
      obtain ⟨s, hs, rfl⟩ := h1.at (by omega)
      rw [nI_clamp (show s < 2 ^ 31 by omega)]
      unfold spUses
      refine zw.it (fun c => ?_) (fun c => ?_)
      · rw [if_pos c]
        refine zw.e (zgr_at hC.1 hC.2.2.1) ?_
        refine zw.e (zgr_at hL.1 hL.r_used) ?_
        refine zw.e (zil_v hL.k_used rfl (by omega) (by decide) rfl) ?_
        exact zw.s ⟨(hP.2.2.2.2.2.2.1 s hs).of, rfl⟩
      · rw [if_neg c]
        refine zw.e (zgr_at hC.1 hC.2.2.1) ?_
        refine zw.e (zgr_at hL.1 hL.r_usedTexts) ?_
        refine zw.e (zil_v hL.k_usedTexts rfl (by omega) (by decide) rfl) ?_
        exact zw.s ⟨(hP.2.2.2.2.2.2.2.1 s hs).of, rfl⟩
    · rw [if_neg h2, if_neg (show ¬ (inR ns x ∧ inR 2 y) from fun q => h2 q.2)]
      exact zw.t rfl (zw.s ⟨rfl, rfl⟩)
  · rw [if_neg h1, if_neg (show ¬ (inR ns x ∧ inR 2 y) from fun q => h1 q.1)]
    exact zw.t rfl (zw.s ⟨rfl, rfl⟩)
end C2
