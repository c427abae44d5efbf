/-! the class: a build: inputs, tools -/
section C3
variable {N b B : Nat} {K : Nat → Option (Nat × Nat)} {iv : Nat → Nat → Int32} {rv : Nat → Nat → Option Nat} {lv : Nat → Nat → Int64} {S : zS}
variable {tp : List Int32} {nt : Nat} {tx : Nat → List Int32} {lk : Nat → Bool} {ns : Nat} {tl : Nat → Nat} {pa : Nat → Int32} {pb : Nat → Nat} {ins : Nat → List Nat}
/-- a thing in a build -/
def cS (B : Nat) (iv : Nat → Nat → Int32) (s : Nat) (o : Option (List Int32)) : Prop := match o with
  | none => iv (B + 3) s = 1
  | some L => iv (B + 3) s = 0 ∧ cR iv (B + 5 + 2 * s) L
theorem cS.fl {s : Nat} {o : Option (List Int32)} (h : cS B iv s o) : iv (B + 3) s = if o = none then 1 else 0 := by
  cases o with
  | none => exact h
  | some L => exact h.1
theorem cS.fr {iv' : Nat → Nat → Int32} {s : Nat} {o : Option (List Int32)} (h : cS B iv s o) (h1 : iv' (B + 3) s = iv (B + 3) s) (h2 : ∀ j, iv' (B + 5 + 2 * s) j = iv (B + 5 + 2 * s) j) (h3 : ∀ j, iv' (B + 5 + 2 * s + 1) j = iv (B + 5 + 2 * s + 1) j) : cS B iv' s o := by
  cases o with
  | none => exact h1.trans h
  | some L => exact ⟨h1.trans h.1, by rw [h2]; exact h.2.1, h.2.2.eq fun k _ => h3 _⟩
theorem c_input {s k : Nat} (hL : cPla b K rv) (hP : cP b iv ns tl pa pb ins) (hd : dP nt ns tl pa pb ins) (hs : s < ns) (hk : k < (ins s).length) : fX4_input N (K, iv, rv, lv) (b + 45) (nI s) (nI k) = some (nI ((ins s).getD k 0), (K, iv, rv, lv)) := by
  have h4 := (hd.2 s hs).2.2.2.1
  have hn := hd.1
  unfold fX4_input fX4_input_0
  rw [zgr_at hL.1 hL.r_inputs, Option.bind_some, zil_v (j := 4 * s + k) hL.k_inputs (ix4 s k) (by omega) (by decide) (hP.2.2.2.2.2.1 s hs k hk), Option.bind_some]
theorem in_ok {s k : Nat} (hd : dP nt ns tl pa pb ins) (hs : s < ns) (hk : k < (ins s).length) : (ins s).getD k 0 ∈ ins s ∧ okI nt s ((ins s).getD k 0) := ⟨getD_mem hk, (hd.2 s hs).2.2.2.2 _ (getD_mem hk)⟩
theorem c_hasGood {s : Nat} {f : Nat → Option (List Int32)} (hL : cPla b K rv) (hX : cTex b K rv) (hBu : cBui b B K rv) (hT : cT b iv tp nt tx lk) (hnt : nt ≤ 20) (hP : cP b iv ns tl pa pb ins) (hd : dP nt ns tl pa pb ins) (hs : s < ns) (hS : ∀ j, 100 + j ∈ ins s → cS B iv j (f j)) (hN : 100 < N) :
    zw (fX1_hasGoodInputs N (K, iv, rv, lv) B (nI s)) (fun q => q = (if ins s ≠ [] ∧ srcs (src tx lk f) (ins s) ≠ none then 1 else 0, (K, iv, rv, lv))) := by
  have hn := hd.1
  have h4 := (hd.2 s hs).2.2.2.1
  obtain ⟨u1, u2, u3, u4, u5, u6, u7, u8⟩ := hBu
  have a5 := hP.2.2.2.2.1 s hs
  unfold fX1_hasGoodInputs fX1_hasGoodInputs_0 lX1_hasGoodInputs_2
  refine zw.loop (fun t y => ∃ k, k + t = (ins s).length ∧ y = ((K, iv, rv, lv), B, nI s, nI k) ∧ ∀ j, j < k → src tx lk f ((ins s).getD j 0) ≠ none) ?_ N (ins s).length _ (by omega) ⟨0, by omega, rfl, fun j hj => by omega⟩
  rintro t ⟨S, x0, x1, x2⟩ Kc ⟨k, hk, hy, g⟩ ih
  cases hy
  dsimp only
  unfold fX1_hasGoodInputs_2 fX1_hasGoodInputs_85 fX1_hasGoodInputs_62 fX1_hasGoodInputs_60
  refine zw.e (zgr_at u1 u2) ?_
  refine zw.e (zgr_at hL.1 hL.r_inputCount) ?_
  refine zw.e (zil_v hL.k_inputCount rfl (by omega) (by decide) a5) ?_
  by_cases ht : t = 0
  · refine zw.t (nI_le (by omega) (by omega)) ?_
    refine zw.e (zgr_at u1 u2) ?_
    refine zw.e (zgr_at hL.1 hL.r_inputCount) ?_
    refine zw.e (zil_v hL.k_inputCount rfl (by omega) (by decide) a5) ?_
    have hall : srcs (src tx lk f) (ins s) ≠ none := by
      rw [Ne, srcs_none]
      rintro ⟨i, hi, e⟩
      obtain ⟨j, hj, rfl⟩ := List.getElem_of_mem hi
      refine g j (by omega) ?_
      rw [List.getD_eq_getElem?_getD, List.getElem?_eq_getElem hj]
      exact e
    by_cases h0 : ins s = []
    · refine zw.t (by rw [h0]; decide) (zw.s ?_)
      rw [if_neg (fun q => q.1 h0)]
      rfl
    · have hpos : 0 < (ins s).length := List.length_pos_iff.mpr h0
      refine zw.f (nI_ge (show 0 < (ins s).length from hpos) (by omega)) (zw.s ?_)
      rw [if_pos ⟨h0, hall⟩]
      rfl
  · refine zw.f (nI_ge (show k < (ins s).length by omega) (by omega)) ?_
    obtain ⟨m1, m2⟩ := in_ok hd hs (show k < (ins s).length by omega)
    refine zw.e (zgr_at u1 u2) ?_
    refine zw.e (zrc_at hL.1) ?_
    refine zw.e2 (c_input hL hP hd hs (show k < (ins s).length by omega)) ?_
    generalize hi : (ins s).getD k 0 = i at m1 m2
    have next : src tx lk f i ≠ none → zw (Kc ((K, iv, rv, lv), B, nI s, nI k + 1)) (fun q => q = (if ins s ≠ [] ∧ srcs (src tx lk f) (ins s) ≠ none then 1 else 0, (K, iv, rv, lv))) := fun q => ih (t - 1) _ (by omega) ⟨k + 1, by omega, by rw [nI_1 k], fun j hj => by
      by_cases e : j = k
      · rw [e, hi]; exact q
      · exact g j (by omega)⟩
    have stop : src tx lk f i = none → zw (some ((0 : Int32) &&& 1, ((K, iv, rv, lv) : zS))) (fun q => q = (if ins s ≠ [] ∧ srcs (src tx lk f) (ins s) ≠ none then 1 else 0, (K, iv, rv, lv))) := fun q => zw.s (by
      rw [if_neg (fun z => z.2 (srcs_none.mpr ⟨i, m1, q⟩))]
      rfl)
    by_cases h1 : 100 ≤ i
    · have hi2 : i < 100 + s := by omega
      refine zw.t (nI_le h1 (by omega)) ?_
      have hc := hS (i - 100) (by rw [show 100 + (i - 100) = i by omega]; exact m1)
      have hsr : src tx lk f i = f (i - 100) := by unfold src; rw [if_neg (by omega)]
      refine zw.e (zgr_at u1 u6.1) ?_
      refine zw.e (zzl_v (j := i - 100) u6.2 (nI_sub h1) (by omega) (by decide) hc.fl) ?_
      by_cases hf : f (i - 100) = none
      · rw [if_pos hf]
        exact zw.f (by decide) (stop (by rw [hsr]; exact hf))
      · rw [if_neg hf]
        exact zw.t rfl (next (by rw [hsr]; exact hf))
    · have hi2 : i < nt := by omega
      refine zw.f (nI_ge (show i < 100 by omega) (by decide)) ?_
      have hsr : src tx lk f i = if lk i = true then none else some (tx i) := by unfold src; rw [if_pos (by omega)]
      refine zw.e (zgr_at u1 u3) ?_
      refine zw.e (zgi_at hX.1) ?_
      rw [zush_1 hT.2.2.1 (by omega)]
      by_cases hl : lk i = true
      · rw [if_pos hl] at hsr ⊢
        exact zw.f (by decide) (stop hsr)
      · rw [if_neg hl] at hsr ⊢
        exact zw.t rfl (next (by rw [hsr]; exact fun q => by cases q))
/-- the row of an input -/
theorem c_inputRow {s k : Nat} {f : Nat → Option (List Int32)} {L : List Int32} (hB : b + 63 ≤ B) (hL : cPla b K rv) (hX : cTex b K rv) (hBu : cBui b B K rv) (hT : cT b iv tp nt tx lk) (hdT : dT tp nt tx lk) (hP : cP b iv ns tl pa pb ins) (hd : dP nt ns tl pa pb ins) (hs : s < ns) (hS : ∀ j, 100 + j ∈ ins s → cS B iv j (f j)) (hg : ∀ j L, f j = some L → gT L) (hk : k < (ins s).length) (he : src tx lk f ((ins s).getD k 0) = some L) :
    zw (fX1_inputRow N (K, iv, rv, lv) B (nI s) (nI k)) (fun q => q.2 = (K, iv, rv, lv) ∧ ∃ m, cRow K rv q.1 m ∧ cR iv q.1 L ∧ L.length ≤ m ∧ m < 2 ^ 29 ∧ q.1 + 1 < B + 5 + 2 * s ∧ b + 5 ≤ q.1) := by
  have hn := hd.1
  have hnt := hdT.2.1
  have h4 := (hd.2 s hs).2.2.2.1
  obtain ⟨u1, u2, u3, u4, u5, u6, u7, u8⟩ := hBu
  unfold fX1_inputRow fX1_inputRow_0 fX1_inputRow_37
  refine zw.e (zgr_at u1 u2) ?_
  refine zw.e (zrc_at hL.1) ?_
  refine zw.e2 (c_input hL hP hd hs hk) ?_
  obtain ⟨m1, m2⟩ := in_ok hd hs hk
  generalize hi : (ins s).getD k 0 = i at m1 m2 he
  by_cases h1 : 100 ≤ i
  · have hi2 : i < 100 + s := by omega
    refine zw.t (nI_le h1 (by omega)) ?_
    have hc := hS (i - 100) (by rw [show 100 + (i - 100) = i by omega]; exact m1)
    have hsr : src tx lk f i = f (i - 100) := by unfold src; rw [if_neg (by omega)]
    rw [hsr] at he
    rw [he] at hc
    obtain ⟨r1, r2⟩ := u8 (i - 100) (by omega)
    refine zw.e (zgr_at u1 u5.1) ?_
    rw [show nI i - (100 : Int32) = nI (i - 100) from nI_sub h1]
    refine zw.e (zal_at u5.2 (by omega) (by decide) r1) ?_
    exact zw.s ⟨rfl, 200, r2, hc.2, (hg _ _ he).1, by decide, by show B + 5 + 2 * (i - 100) + 1 < _; omega, by show _ ≤ B + 5 + 2 * (i - 100); omega⟩
  · have hi2 : i < nt := by omega
    refine zw.f (nI_ge (show i < 100 by omega) (by decide)) ?_
    have hsr : src tx lk f i = if lk i = true then none else some (tx i) := by unfold src; rw [if_pos (by omega)]
    rw [hsr] at he
    split at he
    · cases he
    · cases he
      obtain ⟨x1, x2, x3, x4, x5, x6⟩ := hX
      obtain ⟨r1, r2⟩ := x6 i (by omega)
      refine zw.e (zgr_at u1 u3) ?_
      refine zw.e (zgr_at x1 x3) ?_
      refine zw.e (zal_at x5 (by omega) (by decide) r1) ?_
      exact zw.s ⟨rfl, 60, r2, hT.2.2.2 i hi2, hdT.2.2.1 i hi2, by decide, by show b + 5 + 2 * i + 1 < _; omega, by show _ ≤ b + 5 + 2 * i; omega⟩
/-- the inputs one behind the other -/
theorem c_join {s : Nat} {f : Nat → Option (List Int32)} {Ls : List (List Int32)} {rev : Bool} (hB : b + 63 ≤ B) (hL : cPla b K rv) (hX : cTex b K rv) (hBu : cBui b B K rv) (hT : cT b iv tp nt tx lk) (hdT : dT tp nt tx lk) (hP : cP b iv ns tl pa pb ins) (hd : dP nt ns tl pa pb ins) (hs : s < ns) (hS : ∀ j, 100 + j ∈ ins s → cS B iv j (f j)) (hg : ∀ j L, f j = some L → gT L) (hLs : srcs (src tx lk f) (ins s) = some Ls) (h0 : cR iv (B + 5 + 2 * s) []) (hN : 100 < N) :
    zw (fX1_join N (K, iv, rv, lv) B (nI s) (B + 5 + 2 * s) (if rev then 1 else 0)) (fun q => ∃ iv', q.2 = (K, iv', rv, lv) ∧ fQ (fun c => c = B + 5 + 2 * s ∨ c = B + 5 + 2 * s + 1) iv iv' ∧ ((if rev then Ls.reverse else Ls).flatten.length ≤ 200 → q.1 = 1 ∧ cR iv' (B + 5 + 2 * s) (if rev then Ls.reverse else Ls).flatten) ∧ (¬ (if rev then Ls.reverse else Ls).flatten.length ≤ 200 → q.1 = 0)) := by
  have hn := hd.1
  have hnt := hdT.2.1
  have h4 := (hd.2 s hs).2.2.2.1
  have hBu2 := hBu
  obtain ⟨u1, u2, u3, u4, u5, u6, u7, u8⟩ := hBu
  obtain ⟨r1, r2⟩ := u8 s (by omega)
  have hlen := srcs_len hLs
  generalize hMs : (if rev then Ls.reverse else Ls) = Ms
  have hMl : Ms.length = (ins s).length := by rw [← hMs]; split <;> simp [hlen]
  unfold fX1_join fX1_join_0
  refine zw.e (zgr_at u1 u2) ?_
  refine zw.e (zgr_at hL.1 hL.r_inputCount) ?_
  refine zw.e (zil_v hL.k_inputCount rfl (by omega) (by decide) (hP.2.2.2.2.1 s hs)) ?_
  unfold lX1_join_14
  refine zw.loop (fun t y => ∃ k iv1, k + t = (ins s).length ∧ y = ((K, iv1, rv, lv), B, nI s, B + 5 + 2 * s, (if rev then (1 : Int32) else 0), nI (ins s).length, nI k) ∧ fQ (fun c => c = B + 5 + 2 * s ∨ c = B + 5 + 2 * s + 1) iv iv1 ∧ cR iv1 (B + 5 + 2 * s) (Ms.take k).flatten ∧ (Ms.take k).flatten.length ≤ 200) ?_ N (ins s).length _ (by omega) ⟨0, iv, by omega, rfl, fQ.rf, by simpa using h0, by simp⟩
  rintro t ⟨S, x0, x1, x2, x3, x4, x5⟩ Kc ⟨k, iv1, hk, hy, f1, g1, g2⟩ ih
  cases hy
  dsimp only
  unfold fX1_join_14
  by_cases ht : t = 0
  · refine zw.t (nI_le (by omega) (by omega)) (zw.s ⟨iv1, rfl, f1, fun _ => ⟨rfl, ?_⟩, fun q => ?_⟩)
    · rw [List.take_of_length_le (by omega)] at g1; exact g1
    · rw [List.take_of_length_le (by omega)] at g2; exact absurd g2 q
  · have hk2 : k < (ins s).length := by omega
    refine zw.f (nI_ge hk2 (by omega)) ?_
    have hT1 : cT b iv1 tp nt tx lk := hT.fr f1 (fun a h1 h2 => by omega) hnt
    have hP1 : cP b iv1 ns tl pa pb ins := hP.fr f1 (fun a h1 h2 => by omega)
    have hS1 : ∀ j, 100 + j ∈ ins s → cS B iv1 j (f j) := fun j hj => by
      have hjs : j < s := by rcases (hd.2 s hs).2.2.2.2 _ hj with q | q <;> omega
      exact (hS j hj).fr (f1 _ _ (by omega)) (fun i => f1 _ _ (by omega)) (fun i => f1 _ _ (by omega))
    have body : ∀ m : Nat, m < (ins s).length → Ms.getD k [] = Ls.getD m [] → zw (fX1_join_40 N Kc (K, iv1, rv, lv) B (nI s) (B + 5 + 2 * s) (if rev then (1 : Int32) else 0) (nI (ins s).length) (nI k) (B + 5 + 2 * s) B (nI s) (nI m)) (fun q => ∃ iv', q.2 = (K, iv', rv, lv) ∧ fQ (fun c => c = B + 5 + 2 * s ∨ c = B + 5 + 2 * s + 1) iv iv' ∧ (Ms.flatten.length ≤ 200 → q.1 = 1 ∧ cR iv' (B + 5 + 2 * s) Ms.flatten) ∧ (¬ Ms.flatten.length ≤ 200 → q.1 = 0)) := by
      intro m hm e
      unfold fX1_join_40
      refine zw.e (zrc_at u1) ?_
      refine zw.c2 (c_inputRow hB hL hX hBu2 hT1 hdT hP1 hd hs hS1 hg hm (srcs_at hLs m hm)) ?_
      rintro a S ⟨rfl, mm, q1, q2, q3, q4, q5, q6⟩
      refine zw.e (zrc_at r2.1) ?_
      refine zw.c2 (c_append r2 g1 g2 q1 q2 q3 (by decide) q4 ⟨by dsimp at q5; omega, by dsimp at q5; omega, by dsimp at q5; omega⟩) ?_
      rintro v S ⟨p1, p2⟩
      dsimp only at p1 p2
      have ft := flat_take (Ls := Ms) (k := k) (by omega)
      rw [e] at ft
      have fl : (Ms.take (k + 1)).flatten.length = (Ms.take k).flatten.length + (Ls.getD m []).length := by rw [ft, List.length_append]
      by_cases hfit : (Ms.take k).flatten.length + (Ls.getD m []).length ≤ 200
      · obtain ⟨e1, iv2, rfl, f2, g3⟩ := p1 hfit
        rw [e1]
        refine zw.f (by decide) ?_
        refine ih (t - 1) _ (by omega) ⟨k + 1, iv2, by omega, by rw [nI_1 k], f1.tr f2, by rw [ft]; exact g3, by rw [fl]; exact hfit⟩
      · have e2 := p2 hfit
        cases e2
        refine zw.t rfl (zw.s ⟨iv1, rfl, f1, fun q => ?_, fun _ => rfl⟩)
        have : Ms.flatten.length = (Ms.take (k + 1)).flatten.length + (Ms.drop (k + 1)).flatten.length := by
          rw [← List.length_append, ← List.flatten_append, List.take_append_drop]
        omega
    cases hrev : rev with
    | false =>
      rw [hrev] at hMs body
      refine zw.t rfl (body k hk2 ?_)
      rw [← hMs]
      rfl
    | true =>
      rw [hrev] at hMs body
      refine zw.f (by decide) ?_
      rw [show nI (ins s).length - (1 : Int32) - nI k = nI ((ins s).length - 1 - k) by rw [show (1 : Int32) = nI 1 from rfl, nI_sub (by omega), nI_sub (by omega)]]
      refine body ((ins s).length - 1 - k) (by omega) ?_
      rw [← hMs]
      simp only [if_true, List.getD_eq_getElem?_getD]
      rw [List.getElem?_reverse (by omega), hlen]
end C3
