/-! the model: step, need, change, maker, forge -/
section M3
variable {N b : Nat} {K : Nat → Option (Nat × Nat)} {iv : Nat → Nat → Int32} {rv : Nat → Nat → Option Nat} {lv : Nat → Nat → Int64} {S : zS}
variable {tp : List Int32} {nt : Nat} {tx : Nat → List Int32} {lk : Nat → Bool}
/-- the plan: steps, tools, a, b, inputs -/
def mP (b : Nat) (iv : Nat → Nat → Int32) (ns : Nat) (tl : Nat → Nat) (pa : Nat → Int32) (pb : Nat → Nat) (ins : Nat → List Nat) : Prop :=
  iv b 8 = nI ns ∧ (∀ s, s < ns → iv (b + 6) s = nI (tl s)) ∧ (∀ s, s < ns → iv (b + 7) s = pa s) ∧ (∀ s, s < ns → iv (b + 8) s = nI (pb s)) ∧ (∀ s, s < ns → iv (b + 9) s = nI (ins s).length) ∧ ∀ s, s < ns → ∀ k, k < (ins s).length → iv (b + 10) (4 * s + k) = nI ((ins s).getD k 0)
def dP (nt ns : Nat) (tl : Nat → Nat) (pa : Nat → Int32) (pb : Nat → Nat) (ins : Nat → List Nat) : Prop :=
  ns ≤ 24 ∧ ∀ s, s < ns → tl s ≤ 7 ∧ isB (pa s) ∧ pb s < 8 ∧ (ins s).length ≤ 4 ∧ ∀ i ∈ ins s, i < nt ∨ (100 ≤ i ∧ i < 100 + s)
variable {ns : Nat} {tl : Nat → Nat} {pa : Nat → Int32} {pb : Nat → Nat} {ins : Nat → List Nat}
theorem mP.fr {iv' : Nat → Nat → Int32} {rs ks : List Nat} (h : mP b iv ns tl pa pb ins) (hf : fM b rs ks iv iv') (h1 : 0 ∉ rs ∧ 6 ∉ rs ∧ 7 ∉ rs ∧ 8 ∉ rs ∧ 9 ∉ rs ∧ 10 ∉ rs) (h2 : 8 ∉ ks) : mP b iv' ns tl pa pb ins := by
  obtain ⟨a1, a2, a3, a4, a5, a6⟩ := h
  obtain ⟨b0, b1, b2, b3, b4, b5⟩ := h1
  exact ⟨by rw [hf.fld b0 h2]; exact a1, fun s hs => by rw [hf.arr (by decide) b1]; exact a2 s hs, fun s hs => by rw [hf.arr (by decide) b2]; exact a3 s hs, fun s hs => by rw [hf.arr (by decide) b3]; exact a4 s hs, fun s hs => by rw [hf.arr (by decide) b4]; exact a5 s hs, fun s hs k hk => by rw [hf.arr (by decide) b5]; exact a6 s hs k hk⟩
theorem m_isStep {x : Int32} (hL : mL b K rv) (hP : mP b iv ns tl pa pb ins) (hn : ns ≤ 24) : fX8_isStep N (K, iv, rv, lv) b x = some (if inR ns x then 1 else 0, (K, iv, rv, lv)) := by
  unfold fX8_isStep fX8_isStep_0
  rw [zgi_v hL.o hP.1]
  simp only [Option.bind_some, m_in, zb2]
  have h0 : (¬ x < 0 ∧ ¬ nI ns - 1 < x) ↔ inR ns x := in_R (by omega)
  by_cases h : inR ns x
  · rw [if_pos h, if_pos (h0.mpr h)]
    rfl
  · rw [if_neg h, if_neg (fun q => h (h0.mp q))]
    rfl
theorem m_step {x y v : Int32} (hL : mL b K rv) (hP : mP b iv ns tl pa pb ins) (hd : dP nt ns tl pa pb ins) :
    zw (fX8_step N (K, iv, rv, lv) b x y v) (fun q => ∃ iv', q.2 = (K, iv', rv, lv) ∧ fM b [6, 7, 8, 9] [8] iv iv' ∧ if inR 8 x ∧ inR 256 y ∧ inR 8 v then (if ns = 24 then q.1 = -3 ∧ mP b iv' ns tl pa pb ins else q.1 = nI ns ∧ mP b iv' (ns + 1) (upB tl ns x.toNatClampNeg) (upB pa ns y) (upB pb ns v.toNatClampNeg) (upB ins ns [])) else q.1 = -1 ∧ mP b iv' ns tl pa pb ins) := by
  have hn := hd.1
  unfold fX8_step fX8_step_0 fX8_step_31
  refine zw.e2 (m_inR (n := 7) (by decide)) ?_
  by_cases h1 : inR 8 x
  · rw [if_pos h1]
    refine zw.f (by decide) ?_
    refine zw.e2 (m_inR (n := 255) (by decide)) ?_
    by_cases h2 : inR 256 y
    · rw [if_pos h2]
      refine zw.f (by decide) ?_
      refine zw.e2 (m_inR (n := 7) (by decide)) ?_
      by_cases h3 : inR 8 v
      · rw [if_pos h3]
        refine zw.f (by decide) ?_
        refine zw.e (zgi_v hL.o hP.1) ?_
        by_cases hf : ns = 24
        · refine zw.t (by rw [hf]; rfl) (zw.s ⟨iv, rfl, fM.rf, ?_⟩)
          rw [if_pos ⟨h1, h2, h3⟩, if_pos hf]
          exact ⟨rfl, hP⟩
        · refine zw.f (fun q => hf ((nI_eq (by omega) (by decide)).mp q)) ?_
          have hlt : ns < 24 := by omega
          obtain ⟨a1, a2, a3, a4, a5, a6⟩ := hP
          refine zw.e (zgr_at hL.o hL.r_tool) ?_
          refine zw.e (zgi_v hL.o a1) ?_
          refine zw.e (zis_v hL.k_tool rfl hlt (by decide)) ?_
          refine zw.e (zgr_at hL.o hL.r_a) ?_
          refine zw.e (zgi_v (x := nI ns) hL.o (by rw [zu_o (by omega)]; exact a1)) ?_
          refine zw.e (zis_v hL.k_a rfl hlt (by decide)) ?_
          refine zw.e (zgr_at hL.o hL.r_b) ?_
          refine zw.e (zgi_v (x := nI ns) hL.o (by rw [zu_o (by omega), zu_o (by omega)]; exact a1)) ?_
          refine zw.e (zis_v hL.k_b rfl hlt (by decide)) ?_
          refine zw.e (zgr_at hL.o hL.r_inputs) ?_
          refine zw.e (zgi_v (x := nI ns) hL.o (by rw [zu_o (by omega), zu_o (by omega), zu_o (by omega)]; exact a1)) ?_
          refine zw.e (zis_v hL.k_inputs rfl hlt (by decide)) ?_
          refine zw.e (zgi_v (x := nI ns) hL.o (by rw [zu_o (by omega), zu_o (by omega), zu_o (by omega), zu_o (by omega)]; exact a1)) ?_
          refine zw.e (zpi_at hL.o) ?_
          refine zw.e (zgi_v (x := nI ns + 1) hL.o zu_s) ?_
          refine zw.s ⟨_, rfl, ((((fM.rf.put (r := 6) (by simp) _ _).put (r := 7) (by simp) _ _).put (r := 8) (by simp) _ _).put (r := 9) (by simp) _ _).puf (by simp) _, ?_⟩
          rw [if_pos ⟨h1, h2, h3⟩, if_neg hf]
          obtain ⟨kx, hkx, rfl⟩ := h1.at (by decide)
          obtain ⟨kv, hkv, rfl⟩ := h3.at (by decide)
          rw [nI_clamp (show kx < 2 ^ 31 by omega), nI_clamp (show kv < 2 ^ 31 by omega)]
          refine ⟨by rw [nI_1]; exact nI_pred ns, by rw [zu_s, nI_1], fun s hs => ?_, fun s hs => ?_, fun s hs => ?_, fun s hs => ?_, fun s hs k hk => ?_⟩
          · rw [zu_o (by omega), zu_o (by omega), zu_o (by omega), zu_o (by omega)]
            unfold upB
            by_cases e : s = ns
            · rw [if_pos e, e, zu_s]
            · rw [if_neg e, zu_o (by omega)]; exact a2 s (by omega)
          · rw [zu_o (by omega), zu_o (by omega), zu_o (by omega)]
            unfold upB
            by_cases e : s = ns
            · rw [if_pos e, e, zu_s]
            · rw [if_neg e, zu_o (by omega), zu_o (by omega)]; exact a3 s (by omega)
          · rw [zu_o (by omega), zu_o (by omega)]
            unfold upB
            by_cases e : s = ns
            · rw [if_pos e, e, zu_s]
            · rw [if_neg e, zu_o (by omega), zu_o (by omega), zu_o (by omega)]; exact a4 s (by omega)
          · rw [zu_o (by omega)]
            unfold upB
            by_cases e : s = ns
            · rw [if_pos e, e, zu_s]; rfl
            · rw [if_neg e, zu_o (by omega), zu_o (by omega), zu_o (by omega), zu_o (by omega)]; exact a5 s (by omega)
          · rw [zu_o (by omega), zu_o (by omega), zu_o (by omega), zu_o (by omega), zu_o (by omega)]
            unfold upB at hk ⊢
            by_cases e : s = ns
            · rw [if_pos e] at hk; cases hk
            · rw [if_neg e] at hk ⊢; exact a6 s (by omega) k hk
      · rw [if_neg h3]
        refine zw.t rfl (zw.s ⟨iv, rfl, fM.rf, ?_⟩)
        rw [if_neg (fun q => h3 q.2.2)]
        exact ⟨rfl, hP⟩
    · rw [if_neg h2]
      refine zw.t rfl (zw.s ⟨iv, rfl, fM.rf, ?_⟩)
      rw [if_neg (fun q => h2 q.2.1)]
      exact ⟨rfl, hP⟩
  · rw [if_neg h1]
    refine zw.t rfl (zw.s ⟨iv, rfl, fM.rf, ?_⟩)
    rw [if_neg (fun q => h1 q.1)]
    exact ⟨rfl, hP⟩
/-- step s is an input of a later one -/
def isTk (ns : Nat) (ins : Nat → List Nat) (s : Nat) : Prop := ∃ k, s < k ∧ k < ns ∧ 100 + s ∈ ins k
/-- what need answers where the numbers are right, and the new inputs -/
def inpOk (nt s : Nat) (y : Int32) : Prop := inR nt y ∨ (¬ y < 100 ∧ y < nI (100 + s))
theorem m_need_in {y : Int32} {s : Nat} (hs : s < 24) : (¬ y < (100 : Int32) ∧ ¬ (99 : Int32) + nI s < y) ↔ (¬ y < 100 ∧ y < nI (100 + s)) := by
  have e : (99 : Int32) + nI s = nI (99 + s) := nI_add 99 s
  rw [e]
  simp only [Int32.lt_iff_toInt_lt, nI_toInt (show 99 + s < 2 ^ 31 by omega), nI_toInt (show 100 + s < 2 ^ 31 by omega)]
  constructor
  · intro h; constructor <;> omega
  · intro h; constructor <;> omega
theorem inpOk.at {s : Nat} {y : Int32} (h : inpOk nt s y) (hn : nt ≤ 20) (hs : s < 24) : ∃ i, y = nI i ∧ (i < nt ∨ (100 ≤ i ∧ i < 100 + s)) := by
  rcases h with h | ⟨h1, h2⟩
  · obtain ⟨k, hk, e⟩ := h.at (by omega)
    exact ⟨k, e, Or.inl hk⟩
  · have h0 : ¬ y < 0 := by
      intro q
      apply h1
      rw [Int32.lt_iff_toInt_lt] at *
      have : (0 : Int32).toInt = 0 := rfl
      have : (100 : Int32).toInt = 100 := rfl
      omega
    obtain ⟨k, hk, e⟩ := nI_in2 h0 h2 (by omega)
    refine ⟨k, e, Or.inr ⟨?_, hk⟩⟩
    rw [e, show (100 : Int32) = nI 100 from rfl, nI_ltI (by omega) (by omega)] at h1
    omega
/-- the search for a later step that has s as an input -/
theorem m_need_loop {s : Nat} {y : Int32} {P : Int32 × zS → Prop} (hL : mL b K rv) (hP : mP b iv ns tl pa pb ins) (hd : dP nt ns tl pa pb ins) (hnt : nt ≤ 20) (hs : s < ns) (hN : 100 < N)
    (hT : isTk ns ins s → P (-2, (K, iv, rv, lv))) (hF : ¬ isTk ns ins s → ∀ Kc x3, nI ns ≤ x3 → zw (fX8_need_35 N Kc (K, iv, rv, lv) b (nI s) y x3) P) :
    zw (lX8_need_35 N (K, iv, rv, lv) b (nI s) y (nI s + 1)) P := by
  have hn := hd.1
  unfold lX8_need_35
  refine zw.loop (fun m z => ∃ k, k + m = ns ∧ s < k ∧ z = ((K, iv, rv, lv), b, nI s, y, nI k) ∧ ∀ j, s < j → j < k → 100 + s ∉ ins j) ?_ N (ns - (s + 1)) _ (by omega) ⟨s + 1, by omega, by omega, by rw [nI_1], fun j h1 h2 => by omega⟩
  rintro m ⟨S, x0, x1, x2, x3⟩ Kc ⟨k, hk, hsk, hy, g⟩ ih
  cases hy
  dsimp only
  by_cases hm : m = 0
  · subst hm
    refine hF ?_ Kc _ (by rw [show k = ns by omega]; exact Int32.le_refl _)
    rintro ⟨j, h1, h2, h3⟩
    exact g j h1 (by omega) h3
  · unfold fX8_need_35
    refine zw.e (zgi_v hL.o hP.1) ?_
    refine zw.f (nI_ge (show k < ns by omega) (by omega)) ?_
    unfold lX8_need_46
    have hl4 := (hd.2 k (by omega)).2.2.2.1
    refine zw.loop (fun m2 z => ∃ j, j + m2 = (ins k).length ∧ z = ((K, iv, rv, lv), b, nI s, y, nI k, nI j) ∧ ∀ i, i < j → (ins k).getD i 0 ≠ 100 + s) ?_ N (ins k).length _ (by omega) ⟨0, by omega, rfl, fun i hi => by omega⟩
    rintro m2 ⟨S, x0, x1, x2, x3, x4⟩ Kc2 ⟨j, hj, hy2, g2⟩ ih2
    cases hy2
    dsimp only
    unfold fX8_need_46
    refine zw.e (zgr_at hL.o hL.r_inputs) ?_
    refine zw.e (zil_v hL.k_inputs rfl (by omega) (by decide) (hP.2.2.2.2.1 k (by omega))) ?_
    by_cases hm2 : m2 = 0
    · refine zw.t (nI_le (by omega) (by omega)) ?_
      refine ih (m - 1) _ (by omega) ⟨k + 1, by omega, by omega, by rw [nI_1], fun i h1 h2 h3 => ?_⟩
      by_cases e : i = k
      · subst e
        obtain ⟨q, hq, hqe⟩ := List.getElem_of_mem h3
        exact g2 q (by omega) (by rw [List.getD_eq_getElem?_getD, List.getElem?_eq_getElem hq]; exact hqe)
      · exact g i h1 (by omega) h3
    · refine zw.f (nI_ge (show j < (ins k).length by omega) (by omega)) ?_
      refine zw.e (zgr_at hL.o hL.r_input) ?_
      refine zw.e (zil_v (j := 4 * k + j) hL.k_input (by rw [← nI_add, ← nI_mul]; rfl) (by omega) (by decide) (hP.2.2.2.2.2 k (by omega) j (by omega))) ?_
      have hmem : (ins k).getD j 0 ∈ ins k := by
        rw [List.getD_eq_getElem?_getD, List.getElem?_eq_getElem (show j < (ins k).length by omega)]
        exact List.getElem_mem _
      have hb : (ins k).getD j 0 < 200 := by
        rcases (hd.2 k (by omega)).2.2.2.2 _ hmem with h | h
        · omega
        · omega
      rw [show (100 : Int32) + nI s = nI (100 + s) from nI_add 100 s]
      by_cases e : (ins k).getD j 0 = 100 + s
      · refine zw.t (by rw [e]) (zw.s (hT ⟨k, hsk, by omega, by rw [← e]; exact hmem⟩))
      · refine zw.f (fun q => e ((nI_eq (by omega) (by omega)).mp q)) ?_
        refine ih2 (m2 - 1) _ (by omega) ⟨j + 1, by omega, by rw [nI_1], fun i hi => ?_⟩
        by_cases e2 : i = j
        · rw [e2]; exact e
        · exact g2 i (by omega)
/-- need: the answer and the new inputs -/
theorem m_need {x y : Int32} (hL : mL b K rv) (hT : mT b iv tp nt tx lk) (hdT : dT tp nt tx lk) (hP : mP b iv ns tl pa pb ins) (hd : dP nt ns tl pa pb ins) (hN : 100 < N) :
    zw (fX8_need N (K, iv, rv, lv) b x y) (fun q => ∃ iv', q.2 = (K, iv', rv, lv) ∧ fM b [9, 10] [] iv iv' ∧ ((¬ (inR ns x ∧ inpOk nt x.toNatClampNeg y) → q.1 = -1 ∧ mP b iv' ns tl pa pb ins) ∧ ((inR ns x ∧ inpOk nt x.toNatClampNeg y) → (isTk ns ins x.toNatClampNeg → q.1 = -2 ∧ mP b iv' ns tl pa pb ins) ∧ (¬ isTk ns ins x.toNatClampNeg → ((ins x.toNatClampNeg).length = 4 → q.1 = -3 ∧ mP b iv' ns tl pa pb ins) ∧ ((ins x.toNatClampNeg).length ≠ 4 → q.1 = nI ((ins x.toNatClampNeg).length + 1) ∧ mP b iv' ns tl pa pb (upB ins x.toNatClampNeg (ins x.toNatClampNeg ++ [y.toNatClampNeg]))))))) := by
  have hn := hd.1
  have hnt := hdT.2.1
  unfold fX8_need fX8_need_0 fX8_need_29
  refine zw.e (zrc_at hL.o) ?_
  refine zw.e2 (m_isStep hL hP hn) ?_
  by_cases h1 : inR ns x
  · rw [if_pos h1]
    refine zw.f (by decide) ?_
    obtain ⟨s, hs, rfl⟩ := h1.at (by omega)
    have hc : (nI s).toNatClampNeg = s := nI_clamp (by omega)
    rw [hc]
    refine zw.e (zrc_at hL.o) ?_
    refine zw.e2 (m_isText hL hT hdT) ?_
    have main : inpOk nt s y → zw (fX8_need_31 N (K, iv, rv, lv) b (nI s) y) (fun q => ∃ iv', q.2 = (K, iv', rv, lv) ∧ fM b [9, 10] [] iv iv' ∧ ((¬ (inR ns (nI s) ∧ inpOk nt s y) → q.1 = -1 ∧ mP b iv' ns tl pa pb ins) ∧ ((inR ns (nI s) ∧ inpOk nt s y) → (isTk ns ins s → q.1 = -2 ∧ mP b iv' ns tl pa pb ins) ∧ (¬ isTk ns ins s → ((ins s).length = 4 → q.1 = -3 ∧ mP b iv' ns tl pa pb ins) ∧ ((ins s).length ≠ 4 → q.1 = nI ((ins s).length + 1) ∧ mP b iv' ns tl pa pb (upB ins s (ins s ++ [y.toNatClampNeg]))))))) := by
      intro hok
      obtain ⟨i, rfl, hi⟩ := hok.at hnt (by omega)
      have hci : (nI i).toNatClampNeg = i := nI_clamp (by omega)
      unfold fX8_need_31
      refine m_need_loop hL hP hd hnt hs hN (fun hk => ⟨iv, rfl, fM.rf, fun q => absurd ⟨h1, hok⟩ q, fun _ => ⟨fun _ => ⟨rfl, hP⟩, fun q => absurd hk q⟩⟩) (fun hk Kc x3 hx => ?_)
      unfold fX8_need_35
      refine zw.e (zgi_v hL.o hP.1) ?_
      refine zw.t hx ?_
      obtain ⟨a1, a2, a3, a4, a5, a6⟩ := id hP
      have hl4 := (hd.2 s hs).2.2.2.1
      refine zw.e (zgr_at hL.o hL.r_inputs) ?_
      refine zw.e (zil_v hL.k_inputs rfl (by omega) (by decide) (a5 s hs)) ?_
      by_cases h4 : (ins s).length = 4
      · refine zw.t (by rw [h4]; rfl) (zw.s ⟨iv, rfl, fM.rf, fun q => absurd ⟨h1, hok⟩ q, fun _ => ⟨fun q => absurd q hk, fun _ => ⟨fun _ => ⟨rfl, hP⟩, fun q => absurd h4 q⟩⟩⟩)
      · refine zw.f (fun q => h4 ((nI_eq (by omega) (by decide)).mp q)) ?_
        refine zw.e (zgr_at hL.o hL.r_input) ?_
        refine zw.e (zgr_at hL.o hL.r_inputs) ?_
        refine zw.e (zil_v hL.k_inputs rfl (by omega) (by decide) (a5 s hs)) ?_
        refine zw.e (zis_v (j := 4 * s + (ins s).length) hL.k_input (by rw [← nI_add, ← nI_mul]; rfl) (by omega) (by decide)) ?_
        refine zw.e (zgr_at hL.o hL.r_inputs) ?_
        refine zw.e (zil_v (x := nI (ins s).length) hL.k_inputs rfl (by omega) (by decide) (by rw [zu_o (by omega)]; exact a5 s hs)) ?_
        refine zw.e (zis_v hL.k_inputs rfl (by omega) (by decide)) ?_
        refine zw.e (zgr_at hL.o hL.r_inputs) ?_
        refine zw.e (zil_v (x := nI (ins s).length + 1) hL.k_inputs rfl (by omega) (by decide) zu_s) ?_
        refine zw.s ⟨_, rfl, (fM.rf.put (r := 10) (by simp) _ _).put (r := 9) (by simp) _ _, fun q => absurd ⟨h1, hok⟩ q, fun _ => ⟨fun q => absurd q hk, fun _ => ⟨fun q => absurd q h4, fun _ => ⟨nI_1 _, ?_⟩⟩⟩⟩
        rw [hci]
        refine ⟨by rw [zu_o (by omega), zu_o (by omega)]; exact a1, fun j hj => by rw [zu_o (by omega), zu_o (by omega)]; exact a2 j hj, fun j hj => by rw [zu_o (by omega), zu_o (by omega)]; exact a3 j hj, fun j hj => by rw [zu_o (by omega), zu_o (by omega)]; exact a4 j hj, fun j hj => ?_, fun j hj k hk2 => ?_⟩
        · unfold upB
          by_cases e : j = s
          · rw [if_pos e, e, zu_s, nI_1]
            congr 1
            simp
          · rw [if_neg e, zu_o (by omega), zu_o (by omega)]
            exact a5 j hj
        · unfold upB at hk2 ⊢
          rw [zu_o (by omega)]
          by_cases e : j = s
          · subst e
            rw [if_pos rfl] at hk2 ⊢
            rw [List.length_append] at hk2
            simp only [List.length_cons, List.length_nil] at hk2
            by_cases e2 : k = (ins j).length
            · subst e2
              rw [zu_s]
              simp
            · have hk3 : k < (ins j).length := by omega
              rw [zu_o (by omega), a6 j hj k hk3]
              simp only [List.getD_eq_getElem?_getD, List.getElem?_append_left hk3]
          · rw [if_neg e] at hk2 ⊢
            have := (hd.2 j hj).2.2.2.1
            rw [zu_o (by omega)]
            exact a6 j hj k hk2
    by_cases h2 : inR nt y
    · rw [if_pos h2]
      exact zw.f (by decide) (main (Or.inl h2))
    · rw [if_neg h2]
      refine zw.t rfl ?_
      refine zw.e2 m_in ?_
      by_cases h3 : ¬ y < (100 : Int32) ∧ ¬ (99 : Int32) + nI s < y
      · rw [if_pos h3]
        exact zw.f (by decide) (main (Or.inr ((m_need_in (by omega)).mp h3)))
      · rw [if_neg h3]
        refine zw.t rfl (zw.s ⟨iv, rfl, fM.rf, fun _ => ⟨rfl, hP⟩, fun q => ?_⟩)
        rcases q.2 with q | q
        · exact absurd q h2
        · exact absurd ((m_need_in (by omega)).mpr q) h3
  · rw [if_neg h1]
    exact zw.t rfl (zw.s ⟨iv, rfl, fM.rf, fun _ => ⟨rfl, hP⟩, fun q => absurd q.1 h1⟩)
/-- the makers -/
def byV (o : Option Nat) : Int32 := match o with
  | none => -1
  | some k => nI k
def mM (b : Nat) (iv : Nat → Nat → Int32) (mb : Nat → Option Nat) (mf : Nat → Nat) (fg : Nat → Bool) : Prop :=
  ∀ m, m < 30 → iv (b + 23) m = byV (mb m) ∧ iv (b + 24) m = nI (mf m) ∧ iv (b + 25) m = if fg m then 1 else 0
def dM (mb : Nat → Option Nat) (mf : Nat → Nat) : Prop := ∀ m, m < 30 → (∀ k, mb m = some k → k < 30) ∧ mf m < 20
variable {mb : Nat → Option Nat} {mf : Nat → Nat} {fg : Nat → Bool}
theorem mM.fr {iv' : Nat → Nat → Int32} {rs ks : List Nat} (h : mM b iv mb mf fg) (hf : fM b rs ks iv iv') (h1 : 23 ∉ rs ∧ 24 ∉ rs ∧ 25 ∉ rs) : mM b iv' mb mf fg := fun m hm => by
  rw [hf.arr (by decide) h1.1, hf.arr (by decide) h1.2.1, hf.arr (by decide) h1.2.2]
  exact h m hm
/-- maker: are the numbers right -/
def mkOk (nt : Nat) (x y t : Int32) : Prop := inR 30 x ∧ (y = -1 ∨ (inR 30 y ∧ inR nt t))
def mkBy (y : Int32) : Option Nat := if y = -1 then none else some y.toNatClampNeg
def mkFr (y t : Int32) : Nat := if y = -1 then 0 else t.toNatClampNeg
theorem m_maker {x y t : Int32} (hL : mL b K rv) (hT : mT b iv tp nt tx lk) (hdT : dT tp nt tx lk) (hM : mM b iv mb mf fg) :
    zw (fX8_maker N (K, iv, rv, lv) b x y t) (fun q => ∃ iv', q.2 = (K, iv', rv, lv) ∧ fM b [23, 24] [] iv iv' ∧ (mkOk nt x y t → q.1 = 1 ∧ mM b iv' (upB mb x.toNatClampNeg (mkBy y)) (upB mf x.toNatClampNeg (mkFr y t)) fg) ∧ (¬ mkOk nt x y t → q.1 = -1 ∧ mM b iv' mb mf fg)) := by
  have hnt := hdT.2.1
  unfold fX8_maker fX8_maker_0 fX8_maker_27
  refine zw.e2 m_isMaker ?_
  by_cases h1 : inR 30 x
  · rw [if_pos h1]
    refine zw.f (by decide) ?_
    obtain ⟨m, hm, rfl⟩ := h1.at (by decide)
    have hc : (nI m).toNatClampNeg = m := nI_clamp (by omega)
    have main : ∀ vy vt : Int32, mkOk nt (nI m) y t → y = byV (mkBy y) → vt = nI (mkFr y t) → (0 ≤ y → t = vt) → (¬ 0 ≤ y → (0 : Int32) = vt) → zw (fX8_maker_29 N (K, iv, rv, lv) b (nI m) y t) (fun q => ∃ iv', q.2 = (K, iv', rv, lv) ∧ fM b [23, 24] [] iv iv' ∧ (mkOk nt (nI m) y t → q.1 = 1 ∧ mM b iv' (upB mb (nI m).toNatClampNeg (mkBy y)) (upB mf (nI m).toNatClampNeg (mkFr y t)) fg) ∧ (¬ mkOk nt (nI m) y t → q.1 = -1 ∧ mM b iv' mb mf fg)) := by
      intro vy vt hok e1 e2 e3 e4
      unfold fX8_maker_29 fX8_maker_50
      refine zw.e (zgr_at hL.o hL.r_by) ?_
      refine zw.e (zis_v hL.k_by rfl hm (by decide)) ?_
      refine zw.e (zgr_at hL.o hL.r_from) ?_
      have fin : zw ((zis (K, zu iv (b + 23) m y, rv, lv) (b + 24) (nI m) vt).bind fun S1 => some ((1 : Int32), S1)) (fun q => ∃ iv', q.2 = (K, iv', rv, lv) ∧ fM b [23, 24] [] iv iv' ∧ (mkOk nt (nI m) y t → q.1 = 1 ∧ mM b iv' (upB mb (nI m).toNatClampNeg (mkBy y)) (upB mf (nI m).toNatClampNeg (mkFr y t)) fg) ∧ (¬ mkOk nt (nI m) y t → q.1 = -1 ∧ mM b iv' mb mf fg)) := by
        refine zw.e (zis_v hL.k_from rfl hm (by decide)) ?_
        refine zw.s ⟨_, rfl, (fM.rf.put (r := 23) (by simp) _ _).put (r := 24) (by simp) _ _, fun _ => ⟨rfl, fun j hj => ?_⟩, fun q => absurd hok q⟩
        rw [hc]
        unfold upB
        by_cases e : j = m
        · subst e
          rw [if_pos rfl, if_pos rfl]
          refine ⟨by rw [zu_o (by omega), zu_s]; exact e1, by rw [zu_s]; exact e2, by rw [zu_o (by omega), zu_o (by omega)]; exact (hM j hj).2.2⟩
        · rw [if_neg e, if_neg e]
          refine ⟨by rw [zu_o (by omega), zu_o (by omega)]; exact (hM j hj).1, by rw [zu_o (by omega), zu_o (by omega)]; exact (hM j hj).2.1, by rw [zu_o (by omega), zu_o (by omega)]; exact (hM j hj).2.2⟩
      refine zw.it (fun c => ?_) (fun c => ?_)
      · have e := e3 c
        subst e
        exact fin
      · rw [e4 c]; exact fin
    by_cases hy : y = -1
    · refine zw.t hy ?_
      have hb : byV (mkBy y) = -1 := by simp [mkBy, hy, byV]
      have hfr : mkFr y t = 0 := by simp [mkFr, hy]
      refine main y 0 ⟨h1, Or.inl hy⟩ (by rw [hb]; exact hy) (by rw [hfr]; rfl) (fun q => ?_) (fun _ => rfl)
      rw [hy] at q
      exact absurd q (by decide)
    · refine zw.f hy ?_
      refine zw.e2 m_isMaker ?_
      by_cases h2 : inR 30 y
      · rw [if_pos h2]
        refine zw.f (by decide) ?_
        refine zw.e (zrc_at hL.o) ?_
        refine zw.e2 (m_isText hL hT hdT) ?_
        by_cases h3 : inR nt t
        · rw [if_pos h3]
          refine zw.f (by decide) ?_
          obtain ⟨ky, hky, eky⟩ := h2.at (by decide)
          obtain ⟨kt, hkt, ekt⟩ := h3.at (by omega)
          have hb : byV (mkBy y) = y := by
            simp only [mkBy, if_neg hy, byV]
            rw [eky, nI_clamp (by omega)]
          have hfr : nI (mkFr y t) = t := by
            simp only [mkFr, if_neg hy]
            rw [ekt, nI_clamp (by omega)]
          refine main y t ⟨h1, Or.inr ⟨h2, h3⟩⟩ hb.symm hfr.symm (fun _ => rfl) (fun q => ?_)
          exact absurd (by rw [eky]; exact nI_pos' (by omega)) q
        · rw [if_neg h3]
          refine zw.t rfl (zw.s ⟨iv, rfl, fM.rf, fun q => ?_, fun _ => ⟨rfl, hM⟩⟩)
          rcases q.2 with q | q
          · exact absurd q hy
          · exact absurd q.2 h3
      · rw [if_neg h2]
        refine zw.t rfl (zw.s ⟨iv, rfl, fM.rf, fun q => ?_, fun _ => ⟨rfl, hM⟩⟩)
        rcases q.2 with q | q
        · exact absurd q hy
        · exact absurd q.1 h2
  · rw [if_neg h1]
    exact zw.t rfl (zw.s ⟨iv, rfl, fM.rf, fun q => absurd q.1 h1, fun _ => ⟨rfl, hM⟩⟩)
end M3
