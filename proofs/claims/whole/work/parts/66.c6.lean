/-! the class: builds of rooms, turned words, things side by side -/
section C6
variable {N b B : Nat} {K : Nat → Option (Nat × Nat)} {iv : Nat → Nat → Int32} {rv : Nat → Nat → Option Nat} {lv : Nat → Nat → Int64} {S : zS}
variable {tp : List Int32} {nt : Nat} {tx : Nat → List Int32} {lk : Nat → Bool} {ns : Nat} {tl : Nat → Nat} {pa : Nat → Int32} {pb : Nat → Nat} {ins : Nat → List Nat} {h : Nat → Int32} {wd : Nat → Nat → Int32}
/-- all that building needs to know -/
def cA (b : Nat) (iv : Nat → Nat → Int32) (tp : List Int32) (nt : Nat) (tx : Nat → List Int32) (lk : Nat → Bool) (ns : Nat) (tl : Nat → Nat) (pa : Nat → Int32) (pb : Nat → Nat) (ins : Nat → List Nat) (wd : Nat → Nat → Int32) : Prop :=
  cT b iv tp nt tx lk ∧ cP b iv ns tl pa pb ins ∧ cW b iv wd ∧ dT tp nt tx lk ∧ dP nt ns tl pa pb ins ∧ dW wd
/-- the cells by which building goes -/
def cG (b : Nat) (K : Nat → Option (Nat × Nat)) (rv : Nat → Nat → Option Nat) : Prop := cTop b K rv ∧ cTex b K rv ∧ cPla b K rv ∧ cWor b K rv ∧ cBui b (b + 63) K rv ∧ cBui b (b + 116) K rv
abbrev aBld (B : Nat) : Nat → Prop := fun c => B ≤ c ∧ c < B + 53
abbrev aTwo (b : Nat) : Nat → Prop := fun c => b + 63 ≤ c ∧ c < b + 169
theorem cA.fr {iv' : Nat → Nat → Int32} {A : Nat → Prop} (hA : cA b iv tp nt tx lk ns tl pa pb ins wd) (hf : fQ A iv iv') (h1 : ∀ a, b + 1 ≤ a → a < b + 63 → ¬ A a) : cA b iv' tp nt tx lk ns tl pa pb ins wd :=
  ⟨hA.1.fr hf (fun a g1 g2 => h1 a g1 (by omega)) hA.2.2.2.1.2.1, hA.2.1.fr hf (fun a g1 g2 => h1 a (by omega) (by omega)), hA.2.2.1.fr hf (fun a g1 g2 => h1 a (by omega) g2), hA.2.2.2⟩
/-- a build stands at words h, for what step s uses -/
def cV (B : Nat) (iv : Nat → Nat → Int32) (tx : Nat → List Int32) (lk : Nat → Bool) (ns : Nat) (tl : Nat → Nat) (pa : Nat → Int32) (pb : Nat → Nat) (ins : Nat → List Nat) (h : Nat → Int32) (U : Nat → Bool) : Prop := (∀ w, w < 8 → iv (B + 1) w = h w) ∧ ∀ k, k < ns → U k = true → bt (iv B 6) k = false → cS B iv k (thg tx lk tl pa pb ins h k)
theorem cV.fr {iv' : Nat → Nat → Int32} {A : Nat → Prop} {U : Nat → Bool} (hv : cV B iv tx lk ns tl pa pb ins h U) (hf : fQ A iv iv') (h1 : ∀ a, B ≤ a → a < B + 53 → ¬ A a) (hn : ns ≤ 24) : cV B iv' tx lk ns tl pa pb ins h U := ⟨fun w hw => by rw [hf _ _ (h1 _ (by omega) (by omega))]; exact hv.1 w hw, fun k h2 h3 h4 => by
  rw [hf _ _ (h1 _ (by omega) (by omega))] at h4
  exact (hv.2 k h2 h3 h4).fr (hf _ _ (h1 _ (by omega) (by omega))) (fun j => hf _ _ (h1 _ (by omega) (by omega))) (fun j => hf _ _ (h1 _ (by omega) (by omega)))⟩
theorem cS.far {iv' : Nat → Nat → Int32} {A : Nat → Prop} {s : Nat} {o : Option (List Int32)} (hc : cS B iv s o) (hf : fQ A iv iv') (h1 : ∀ a, B ≤ a → a < B + 53 → ¬ A a) (hs : s < 24) : cS B iv' s o := hc.fr (hf _ _ (h1 _ (by omega) (by omega))) (fun j => hf _ _ (h1 _ (by omega) (by omega))) (fun j => hf _ _ (h1 _ (by omega) (by omega)))
theorem usd_cl (hok : okP nt ns ins) {t : Nat} (ht : t < ns) : ∀ s, s < ns → usd ins t s = true → ∀ j, 100 + j ∈ ins s → usd ins t j = true := fun s hs hu j hj => (usd_back hok t ht j).mpr (Or.inr ⟨s, usd_le hok t ht s hu, hu, hj⟩)
theorem c_open {r : Nat} (hBu : cBui b B K rv) (hB : b + 63 ≤ B) (hL : cWor b K rv) (hW : cW b iv wd) (hr : r < 8) : zw (fX1_open N (K, iv, rv, lv) B (b + 55 + r)) (fun q => ∃ iv', q = (K, iv', rv, lv) ∧ fQ (fun c => c = B ∨ c = B + 1) iv iv' ∧ (∀ w, w < 8 → iv' (B + 1) w = wd r w) ∧ iv' B 6 = -1) := by
  obtain ⟨u1, u2, u3, u4, u5, u6, u7, u8⟩ := hBu
  obtain ⟨e1, e2⟩ := hL.2 r hr
  unfold fX1_open fX1_open_0
  refine zw.e (zgr_at u1 u4.1) ?_
  refine zw.e (zcp_at (s := 0) (d := 0) (k := 8) e2 u4.2 (by decide) (by decide) (by decide) (by decide)) ?_
  refine zw.e (zpi_at u1) ?_
  refine zw.s ⟨_, rfl, (fQ.rf.ro (Or.inr rfl) _).put (Or.inl rfl) _ _, fun w hw => ?_, zu_s⟩
  rw [zu_o (by omega)]
  simp only [zro, if_true, va_cpy, if_pos (show 0 ≤ w ∧ w < 0 + 8 by omega), Nat.zero_add, Nat.sub_zero]
  exact hW r w hr hw
theorem m1_bit {k : Nat} (hk : k < 32) : bt (-1) k = true := b_m1 k hk
theorem c_makeIn {r s : Nat} (hG : cG b K rv) (hBu : cBui b B K rv) (hB : b + 63 ≤ B) (hA : cA b iv tp nt tx lk ns tl pa pb ins wd) (hr : r < 8) (hs : s < ns) (hN : 600 < N) :
    zw (fX1_makeIn N (K, iv, rv, lv) B (b + 55 + r) (nI s)) (fun q => ∃ iv', q = (K, iv', rv, lv) ∧ fQ (aBld B) iv iv' ∧ (∀ w, w < 8 → iv' (B + 1) w = wd r w) ∧ ∀ k, k < ns → usd ins s k = true → cS B iv' k (thg tx lk tl pa pb ins (wd r) k)) := by
  obtain ⟨hT, hP, hW, hdT, hdP, hdW⟩ := id hA
  have hn := hdP.1
  have hnt := hdT.2.1
  obtain ⟨hC, hX, hL, hWo, -, -⟩ := hG
  unfold fX1_makeIn fX1_makeIn_0
  refine zw.e (zrc_at hBu.1) ?_
  refine zw.c (c_open hBu hB hWo hW hr) ?_
  rintro S ⟨iv1, rfl, f1, g1, g2⟩
  have hA1 := hA.fr f1 (fun a h1 h2 => by omega)
  refine zw.e (zgr_at hBu.1 hBu.2.1) ?_
  refine zw.e (zgr_at hL.1 hL.r_used) ?_
  refine zw.e (zil_v hL.k_used rfl (by omega) (by decide) rfl) ?_
  refine zw.e (zrc_at hBu.1) ?_
  have hok := hdP.ok hnt
  refine zw.c (c_make hB hL hX hBu hA1.1 hdT hA1.2.1 hdP g1 (fun w hw => hdW r w hr hw) (hA1.2.1.2.2.2.2.2.2.1 s hs) (usd_cl hok hs) (fun k h1 h2 h3 => ?_) hN) ?_
  · rw [g2, m1_bit (by omega)] at h3; cases h3
  · rintro S ⟨iv2, rfl, f2, g3⟩
    refine zw.s ⟨iv2, rfl, (f1.mo (fun a h => by omega)).tr (f2.mo (fun a h => by omega)), fun w hw => by rw [f2 _ _ (by omega)]; exact g1 w hw, g3⟩
/-- the steps that a word can reach -/
theorem c_reached {w : Nat} (hL : cPla b K rv) (hP : cP b iv ns tl pa pb ins) (hn : ns ≤ 24) (hw : w < 8) (hN : 100 < N) : zw (fX4_stepsReachedBy N (K, iv, rv, lv) (b + 45) (nI w)) (fun q => q.2 = (K, iv, rv, lv) ∧ isS q.1 (fun k => decide (k < ns) && uwd ins tl pb k w)) := by
  unfold fX4_stepsReachedBy fX4_stepsReachedBy_0 lX4_stepsReachedBy_4
  refine zw.loop (fun m y => ∃ k z, k + m = ns ∧ y = ((K, iv, rv, lv), b + 45, nI w, z, nI k) ∧ isS z (fun i => decide (i < k) && uwd ins tl pb i w)) ?_ N ns _ (by omega) ⟨0, 0, by omega, rfl, isS.zero fun i hi => by simp⟩
  rintro m ⟨S, x0, x1, x2, x3⟩ Kc ⟨k, z, hk, hy, g⟩ ih
  cases hy
  dsimp only
  unfold fX4_stepsReachedBy_4 fX4_stepsReachedBy_31 zlet
  refine zw.e (zgi_v hL.1 hP.1) ?_
  by_cases hm : m = 0
  · refine zw.t (nI_le (by omega) (by omega)) (zw.s ⟨rfl, ?_⟩)
    rw [show ns = k by omega]
    exact g
  · refine zw.f (nI_ge (show k < ns by omega) (by omega)) ?_
    refine zw.e (zgr_at hL.1 hL.r_usedWords) ?_
    refine zw.e (zil_v hL.k_usedWords rfl (by omega) (by decide) rfl) ?_
    have hb := hP.2.2.2.2.2.2.2.2.1 k (by omega) w (by omega)
    have hs : ∀ i, (decide (i < k + 1) && uwd ins tl pb i w) = ((decide (i < k) && uwd ins tl pb i w) || (decide (i = k) && uwd ins tl pb k w)) := fun i => by
      by_cases e : i = k
      · subst e; simp
      · have : (i < k + 1) = (i < k) := by apply propext; omega
        simp [e, this]
    refine zw.it (fun c => ih (m - 1) _ (by omega) ⟨k + 1, _, by omega, by rw [nI_1 k], fun i hi => ?_⟩) (fun c => ih (m - 1) _ (by omega) ⟨k + 1, _, by omega, by rw [nI_1 k], fun i hi => ?_⟩)
    · rw [ush_0 (by omega), hb] at c
      rw [g i hi]
      dsimp only
      rw [hs, c]
      simp
    · have c2 : uwd ins tl pb k w = true := by rw [← hb]; exact bnf (fun q => c ((ush_0 (by omega)).mpr q))
      rw [bt_set (by omega) hi, g i hi]
      dsimp only
      rw [hs, c2]
      simp
/-- a word turns -/
theorem c_turn {w : Nat} {v : Int32} {U : Nat → Bool} (hB : b + 63 ≤ B) (hBu : cBui b B K rv) (hL : cPla b K rv) (hP : cP b iv ns tl pa pb ins) (hd : dP nt ns tl pa pb ins) (hnt : nt ≤ 20) (hw : w < 8) (hV : cV B iv tx lk ns tl pa pb ins h U) (hN : 100 < N) :
    zw (fX1_turn N (K, iv, rv, lv) B (nI w) v) (fun q => ∃ iv', q = (K, iv', rv, lv) ∧ fQ (fun c => c = B ∨ c = B + 1) iv iv' ∧ cV B iv' tx lk ns tl pa pb ins (trn h w v) U) := by
  have hn := hd.1
  have hok := hd.ok hnt
  obtain ⟨u1, u2, u3, u4, u5, u6, u7, u8⟩ := hBu
  unfold fX1_turn fX1_turn_0 fX1_turn_34
  refine zw.e (zgr_at u1 u4.1) ?_
  refine zw.e (zil_v u4.2 rfl hw (by decide) (hV.1 w hw)) ?_
  by_cases e : h w = v
  · refine zw.t e (zw.s ⟨iv, rfl, fQ.rf, ?_⟩)
    have : trn h w v = h := by
      funext j
      unfold trn
      by_cases q : j = w
      · rw [if_pos q, q, e]
      · rw [if_neg q]
    rw [this]
    exact hV
  · refine zw.f e ?_
    refine zw.e (zgr_at u1 u4.1) ?_
    refine zw.e (zis_v u4.2 rfl hw (by decide)) ?_
    refine zw.e (zgi_v (x := iv B 6) u1 (by rw [zu_o (by omega)])) ?_
    refine zw.e (zgr_at u1 u2) ?_
    refine zw.e (zrc_at hL.1) ?_
    have f1 : fQ (fun c => c = B + 1) iv (zu iv (B + 1) w v) := fQ.put (A := fun c => c = B + 1) fQ.rf rfl _ _
    refine zw.c2 (c_reached hL (hP.fr f1 (fun a h1 h2 => by omega)) hn hw hN) ?_
    rintro x S ⟨rfl, hx⟩
    refine zw.e (zpi_at u1) ?_
    refine zw.s ⟨_, rfl, (fQ.mo (B := fun c => c = B ∨ c = B + 1) f1 (fun a h => Or.inr h)).put (Or.inl rfl) _ _, fun j hj => ?_, fun k h1 h2 h3 => ?_⟩
    · rw [zu_o (by omega)]
      unfold trn
      by_cases q : j = w
      · rw [q, zu_s, if_pos rfl]
      · rw [zu_o (by omega), if_neg q]
        exact hV.1 j hj
    · have hx2 := hx k (by omega)
      dsimp only at hx2
      rw [zu_s, b_or, hx2, decide_eq_true h1, Bool.true_and, Bool.or_eq_false_iff] at h3
      have hc := hV.2 k h1 h2 h3.1
      rw [thg_words (h := trn h w v) (h' := h) hok (fun s hs => (hd.2 s hs).2.2.1) k h1 (fun j hj hu => ?_)]
      · exact hc.fr (by rw [zu_o (by omega), zu_o (by omega)]) (fun j => by rw [zu_o (by omega), zu_o (by omega)]) (fun j => by rw [zu_o (by omega), zu_o (by omega)])
      · unfold trn
        rw [if_neg (fun q => by rw [q, h3.2] at hu; cases hu)]
/-- two things of a step -/
theorem c_sameThing {s : Nat} {o1 o2 : Option (List Int32)} (hG : cG b K rv) (hs : s < 24) (h1 : cS (b + 63) iv s o1) (h2 : cS (b + 116) iv s o2) (g1 : ∀ L, o1 = some L → L.length ≤ 200) (g2 : ∀ L, o2 = some L → L.length ≤ 200) (hN : 300 < N) : zw (fX7_sameThing N (K, iv, rv, lv) b (nI s)) (fun q => q = (if o1 = o2 then 1 else 0, (K, iv, rv, lv))) := by
  obtain ⟨hC, hX, hL, hWo, ⟨u1, u2, u3, u4, u5, u6, u7, u8⟩, ⟨v1, v2, v3, v4, v5, v6, v7, v8⟩⟩ := hG
  have r3 := hC.2.2.2.2.1
  have r4 := hC.2.2.2.2.2.1
  unfold fX7_sameThing fX7_sameThing_0 fX7_sameThing_24 fX7_sameThing_52 fX7_sameThing_53
  refine zw.e (zgr_at hC.1 r3) ?_
  refine zw.e (zgr_at u1 u6.1) ?_
  refine zw.e (zzl_v u6.2 rfl hs (by decide) h1.fl) ?_
  cases o1 with
  | none =>
    refine zw.f (by rw [if_pos rfl]; decide) ?_
    refine zw.e (zgr_at hC.1 r3) ?_
    refine zw.e (zgr_at u1 u6.1) ?_
    refine zw.e (zzl_v u6.2 rfl hs (by decide) h1.fl) ?_
    refine zw.f (by rw [if_pos rfl]; decide) ?_
    refine zw.e (zgr_at hC.1 r4) ?_
    refine zw.e (zgr_at v1 v6.1) ?_
    refine zw.e (zzl_v v6.2 rfl hs (by decide) h2.fl) ?_
    cases o2 with
    | none => exact zw.f (by rw [if_pos rfl]; decide) (zw.s (by rw [if_pos rfl]; rfl))
    | some L2 => exact zw.t (by rw [if_neg (fun q => by cases q)]) (zw.s (by rw [if_neg (fun q => by cases q)]; rfl))
  | some L1 =>
    refine zw.t (by rw [if_neg (fun q => by cases q)]) ?_
    refine zw.e (zgr_at hC.1 r4) ?_
    refine zw.e (zgr_at v1 v6.1) ?_
    refine zw.e (zzl_v v6.2 rfl hs (by decide) h2.fl) ?_
    cases o2 with
    | none =>
      refine zw.f (by rw [if_pos rfl]; decide) ?_
      refine zw.e (zgr_at hC.1 r3) ?_
      refine zw.e (zgr_at u1 u6.1) ?_
      refine zw.e (zzl_v u6.2 rfl hs (by decide) h1.fl) ?_
      exact zw.t (by rw [if_neg (fun q => by cases q)]) (zw.s (by rw [if_neg (fun q => by cases q)]; rfl))
    | some L2 =>
      refine zw.t (by rw [if_neg (fun q => by cases q)]) ?_
      obtain ⟨a1, a2⟩ := u8 s hs
      obtain ⟨a3, a4⟩ := v8 s hs
      refine zw.e (zgr_at hC.1 r3) ?_
      refine zw.e (zgr_at u1 u5.1) ?_
      refine zw.e (zal_at u5.2 hs (by decide) a1) ?_
      refine zw.e (zgr_at hC.1 r4) ?_
      refine zw.e (zgr_at v1 v5.1) ?_
      refine zw.e (zal_at v5.2 hs (by decide) a3) ?_
      refine zw.e (zrc_at a2.1) ?_
      refine zw.c2 (c_same a2 h1.2 (g1 L1 rfl) a4 h2.2 (g2 L2 rfl) (by decide) (by decide) (by omega)) ?_
      intro v S e
      cases e
      refine zw.s ?_
      by_cases q : L1 = L2
      · rw [if_pos q, if_pos (by rw [q])]; rfl
      · rw [if_neg q, if_neg (fun z => q (by cases z; rfl))]; rfl
/-- the words read by the steps of a set -/
theorem c_wordsRead {x : Int32} {U : Nat → Bool} {th : Nat → Option (List Int32)} (hBu : cBui b B K rv) (hL : cPla b K rv) (hP : cP b iv ns tl pa pb ins) (hd : dP nt ns tl pa pb ins) (hU : isS x U) (hS : ∀ k, k < ns → U k = true → cS B iv k (th k)) (hN : 100 < N) : zw (fX1_wordsRead N (K, iv, rv, lv) B x) (fun q => q = (ofS (rdS th tl pb U ns), (K, iv, rv, lv))) := by
  have hn := hd.1
  obtain ⟨u1, u2, u3, u4, u5, u6, u7, u8⟩ := hBu
  unfold fX1_wordsRead fX1_wordsRead_0 lX1_wordsRead_4
  refine zw.loop (fun m y => ∃ k z, k + m = ns ∧ y = ((K, iv, rv, lv), B, x, z, nI k) ∧ isS z (rdS th tl pb U k)) ?_ N ns _ (by omega) ⟨0, 0, by omega, rfl, isS.zero fun i hi => rdS_0⟩
  rintro m ⟨S, x0, x1, x2, x3⟩ Kc ⟨k, z, hk, hy, g⟩ ih
  cases hy
  dsimp only
  unfold fX1_wordsRead_4 fX1_wordsRead_43
  refine zw.e (zgr_at u1 u2) ?_
  refine zw.e (zgi_v hL.1 hP.1) ?_
  by_cases hm : m = 0
  · refine zw.t (nI_le (by omega) (by omega)) (zw.s ?_)
    rw [g.of, show ns = k by omega]
  · refine zw.f (nI_ge (show k < ns by omega) (by omega)) ?_
    have skip : (U k && ((th k).isSome)) = false → zw (Kc ((K, iv, rv, lv), B, x, x2, nI k + 1)) (fun q => q = (ofS (rdS th tl pb U ns), (K, iv, rv, lv))) := fun q => ih (m - 1) _ (by omega) ⟨k + 1, x2, by omega, by rw [nI_1 k], fun i hi => by
      rw [rdS_s, g i hi, ← Bool.and_assoc, q]
      simp⟩
    by_cases hc : U k = false
    · exact zw.t ((ush_0 (by omega)).mpr (by rw [hU k (by omega)]; exact hc)) (skip (by rw [hc]; rfl))
    · refine zw.f (fun q => hc (by rw [ush_0 (by omega), hU k (by omega)] at q; exact q)) ?_
      have hc2 := bnf hc
      have hs := hS k (by omega) hc2
      refine zw.e (zgr_at u1 u6.1) ?_
      refine zw.e (zzl_v u6.2 rfl (by omega) (by decide) hs.fl) ?_
      cases ho : th k with
      | none => exact zw.f (by rw [if_pos rfl]; decide) (skip (by rw [ho]; simp))
      | some L =>
        refine zw.t (by rw [if_neg (fun q => by cases q)]) ?_
        obtain ⟨d1, d2, d3, d4, d5⟩ := hd.2 k (by omega)
        refine zw.e (zgr_at u1 u2) ?_
        refine zw.e (zrc_at hL.1) ?_
        refine zw.c2 (c_ownWord hL (show k < 24 by omega) (hP.2.1 k (by omega)) (hP.2.2.2.1 k (by omega)) (by omega) d3) ?_
        rintro v S ⟨rfl, hv⟩
        refine ih (m - 1) _ (by omega) ⟨k + 1, _, by omega, by rw [nI_1 k], fun i hi => ?_⟩
        rw [rdS_s, b_or, g i hi, hv i hi, hc2, ho]
        rfl
end C6
