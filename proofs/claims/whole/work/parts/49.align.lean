/-! the least changes -/
/-- how far apart two ends of rows are; f tells which bytes are alike, by what is left behind them -/
def edt (f : Nat → Nat → Bool) : Nat → Nat → Nat
  | 0, b => b
  | a + 1, 0 => a + 1
  | a + 1, b + 1 => min (edt f a b + if f a b then 0 else 1) (min (edt f a (b + 1) + 1) (edt f (a + 1) b + 1))
termination_by a b => a + b
theorem edt_0 (f : Nat → Nat → Bool) (b : Nat) : edt f 0 b = b := by rw [edt]
theorem edt_s0 (f : Nat → Nat → Bool) (a : Nat) : edt f (a + 1) 0 = a + 1 := by rw [edt]
theorem edt_a0 (f : Nat → Nat → Bool) (a : Nat) : edt f a 0 = a := by
  cases a
  · exact edt_0 f 0
  · exact edt_s0 f _
theorem edt_ss (f : Nat → Nat → Bool) (a b : Nat) : edt f (a + 1) (b + 1) = min (edt f a b + if f a b then 0 else 1) (min (edt f a (b + 1) + 1) (edt f (a + 1) b + 1)) := by rw [edt]
theorem edt_ua (f : Nat → Nat → Bool) (a b : Nat) : edt f (a + 1) b ≤ edt f a b + 1 := by
  cases b with
  | zero => rw [edt_s0, edt_a0]; omega
  | succ b => rw [edt_ss]; omega
theorem edt_ub (f : Nat → Nat → Bool) (a b : Nat) : edt f a (b + 1) ≤ edt f a b + 1 := by
  cases a with
  | zero => rw [edt_0, edt_0]; omega
  | succ a => rw [edt_ss]; omega
theorem edt_db (f : Nat → Nat → Bool) : ∀ a b, edt f a b ≤ edt f a (b + 1) + 1 := by
  intro a
  induction a with
  | zero => intro b; rw [edt_0, edt_0]; omega
  | succ a ih =>
    intro b
    have h1 := edt_ua f a b
    have h2 := ih b
    rw [edt_ss]
    split <;> omega
theorem edt_da (f : Nat → Nat → Bool) : ∀ b a, edt f a b ≤ edt f (a + 1) b + 1 := by
  intro b
  induction b with
  | zero => intro a; rw [edt_a0, edt_a0]; omega
  | succ b ih =>
    intro a
    have h1 := edt_ub f a b
    have h2 := ih a
    rw [edt_ss]
    split <;> omega
/-- like bytes are passed -/
theorem edt_like {f : Nat → Nat → Bool} {a b : Nat} (h : f a b = true) : edt f (a + 1) (b + 1) = edt f a b := by
  have h1 := edt_db f a b
  have h2 := edt_da f b a
  rw [edt_ss, if_pos h]
  omega
theorem edt_unlike {f : Nat → Nat → Bool} {a b : Nat} (h : f a b = false) : edt f (a + 1) (b + 1) = min (edt f a b) (min (edt f a (b + 1)) (edt f (a + 1) b)) + 1 := by
  rw [edt_ss, if_neg (by rw [h]; decide)]
  omega
theorem edt_max (f : Nat → Nat → Bool) : ∀ a b, edt f a b ≤ max a b := by
  intro a
  induction a with
  | zero => intro b; rw [edt_0]; omega
  | succ a ih =>
    intro b
    cases b with
    | zero => rw [edt_s0]; omega
    | succ b =>
      have h := ih b
      rw [edt_ss]
      split <;> omega
/-- the changes, from what is left on -/
def pth (f : Nat → Nat → Bool) (n m : Nat) (Y : List Int32) : Nat → Nat → List (Int32 × Int32 × Int32)
  | 0, 0 => []
  | 0, b + 1 => (2, nI (n - 0), Y.getD (m - (b + 1)) 0) :: pth f n m Y 0 b
  | a + 1, 0 => (1, nI (n - (a + 1)), 0) :: pth f n m Y a 0
  | a + 1, b + 1 => if f a b then pth f n m Y a b else if edt f a b + 1 = edt f (a + 1) (b + 1) then (0, nI (n - (a + 1)), Y.getD (m - (b + 1)) 0) :: pth f n m Y a b else if edt f a (b + 1) + 1 = edt f (a + 1) (b + 1) then (1, nI (n - (a + 1)), 0) :: pth f n m Y a (b + 1) else (2, nI (n - (a + 1)), Y.getD (m - (b + 1)) 0) :: pth f n m Y (a + 1) b
termination_by a b => a + b
section PTH
variable {f : Nat → Nat → Bool} {n m : Nat} {Y : List Int32}
theorem pth_00 : pth f n m Y 0 0 = [] := by rw [pth]
theorem pth_0s (b : Nat) : pth f n m Y 0 (b + 1) = (2, nI (n - 0), Y.getD (m - (b + 1)) 0) :: pth f n m Y 0 b := by rw [pth]
theorem pth_s0 (a : Nat) : pth f n m Y (a + 1) 0 = (1, nI (n - (a + 1)), 0) :: pth f n m Y a 0 := by rw [pth]
theorem pth_ss (a b : Nat) : pth f n m Y (a + 1) (b + 1) = if f a b then pth f n m Y a b else if edt f a b + 1 = edt f (a + 1) (b + 1) then (0, nI (n - (a + 1)), Y.getD (m - (b + 1)) 0) :: pth f n m Y a b else if edt f a (b + 1) + 1 = edt f (a + 1) (b + 1) then (1, nI (n - (a + 1)), 0) :: pth f n m Y a (b + 1) else (2, nI (n - (a + 1)), Y.getD (m - (b + 1)) 0) :: pth f n m Y (a + 1) b := by rw [pth]
theorem pth_len : ∀ (t a b : Nat), a + b ≤ t → (pth f n m Y a b).length = edt f a b := by
  intro t
  induction t with
  | zero =>
    intro a b h
    have ha : a = 0 := by omega
    have hb : b = 0 := by omega
    subst ha; subst hb
    rw [pth_00, edt_0]; rfl
  | succ t ih =>
    intro a b h
    cases a with
    | zero =>
      cases b with
      | zero => rw [pth_00, edt_0]; rfl
      | succ b => rw [pth_0s, List.length_cons, ih 0 b (by omega), edt_0, edt_0]
    | succ a =>
      cases b with
      | zero => rw [pth_s0, List.length_cons, ih a 0 (by omega), edt_a0, edt_a0]
      | succ b =>
        rw [pth_ss]
        cases hl : f a b with
        | true => rw [if_pos rfl, ih a b (by omega), edt_like hl]
        | false =>
          rw [if_neg (by decide)]
          have hu := edt_unlike hl
          split
          · rw [List.length_cons, ih a b (by omega)]; omega
          · split
            · rw [List.length_cons, ih a (b + 1) (by omega)]; omega
            · rw [List.length_cons, ih (a + 1) b (by omega)]; omega
end PTH
/-- which bytes are alike -/
def lkF (X Y : List Int32) (a b : Nat) : Bool := decide (X.getD (X.length - 1 - a) 0 = Y.getD (Y.length - 1 - b) 0)
def chg (X Y : List Int32) : List (Int32 × Int32 × Int32) := pth (lkF X Y) X.length Y.length Y X.length Y.length
theorem chg_len {X Y : List Int32} (h1 : X.length ≤ 200) (h2 : Y.length ≤ 200) : (chg X Y).length ≤ 200 := by
  rw [chg, pth_len _ _ _ (Nat.le_refl _)]
  have := edt_max (lkF X Y) X.length Y.length
  omega
section M15
variable {N b : Nat} {K : Nat → Option (Nat × Nat)} {iv : Nat → Nat → Int32} {rv : Nat → Nat → Option Nat} {lv : Nat → Nat → Int64}
variable {tp : List Int32} {nt : Nat} {tx : Nat → List Int32} {lk : Nat → Bool} {ns : Nat} {tl : Nat → Nat} {pa : Nat → Int32} {pb : Nat → Nat} {ins : Nat → List Nat} {wd : Nat → Nat → Int32}
theorem m_first {s k : Nat} {X : List Int32} (hL : mL b K rv) (hs : s < 24) (hS : mS b iv s (some X)) (hX : X.length ≤ 200) (hk : k < X.length) : fX8_first N (K, iv, rv, lv) b (nI s) (nI k) = some (X.getD k 0, (K, iv, rv, lv)) := by
  unfold fX8_first fX8_first_0
  rw [zgr_at hL.o hL.r_bytes, Option.bind_some, zil_v (j := 200 * s + k) hL.k_bytes (by rw [← nI_add, ← nI_mul]; rfl) (by omega) (by decide) (hS.2 k hk)]
  rfl
theorem m_second {s k : Nat} {X : List Int32} (hL : mL b K rv) (hs : s < 24) (hS : mS b iv (24 + s) (some X)) (hX : X.length ≤ 200) (hk : k < X.length) : fX8_second N (K, iv, rv, lv) b (nI s) (nI k) = some (X.getD k 0, (K, iv, rv, lv)) := by
  unfold fX8_second fX8_second_0
  rw [zgr_at hL.o hL.r_bytes, Option.bind_some, zil_v (j := 200 * (24 + s) + k) hL.k_bytes (by rw [show (24 : Int32) + nI s = nI (24 + s) from nI_add 24 s, show (200 : Int32) = nI 200 from rfl, nI_mul, nI_add]) (by omega) (by decide) (hS.2 k hk)]
  rfl
theorem m_findFar {s : Nat} {X Y : List Int32} (hL : mL b K rv) (hs : s < 24) (hS1 : mS b iv s (some X)) (hS2 : mS b iv (24 + s) (some Y)) (hX : X.length ≤ 200) (hY : Y.length ≤ 200) (hN : 3000 < N) :
    zw (fX8_findFar N (K, iv, rv, lv) b (nI s) (nI X.length) (nI Y.length)) (fun q => ∃ iv', q = (K, iv', rv, lv) ∧ fM b [19] [] iv iv' ∧ ∀ i j, i ≤ X.length → j ≤ Y.length → iv' (b + 19) (201 * i + j) = nI (edt (lkF X Y) (X.length - i) (Y.length - j))) := by
  unfold fX8_findFar fX8_findFar_0 lX8_findFar_3
  refine zw.loop (fun k y => ∃ iv1, k ≤ X.length + 1 ∧ y = ((K, iv1, rv, lv), b, nI s, nI X.length, nI Y.length, nI k - 1) ∧ fM b [19] [] iv iv1 ∧ ∀ i j, k ≤ i → i ≤ X.length → j ≤ Y.length → iv1 (b + 19) (201 * i + j) = nI (edt (lkF X Y) (X.length - i) (Y.length - j))) ?_ N (X.length + 1) _ (by omega) ⟨iv, Nat.le_refl _, by rw [nI_pred], fM.rf, fun i j h1 h2 _ => by omega⟩
  rintro k ⟨S, x0, x1, x2, x3, x4⟩ Kc ⟨iv1, hk, hy, f1, g1⟩ ih
  cases hy
  dsimp only
  unfold fX8_findFar_3
  cases k with
  | zero => exact zw.t (by decide) (zw.s ⟨iv1, rfl, f1, fun i j h1 h2 => g1 i j (by omega) h1 h2⟩)
  | succ i =>
    rw [nI_pred]
    refine zw.f (nI_pos (by omega)) ?_
    unfold lX8_findFar_11
    refine zw.loop (fun l y => ∃ iv2, l ≤ Y.length + 1 ∧ y = ((K, iv2, rv, lv), b, nI s, nI X.length, nI Y.length, nI i, nI l - 1) ∧ fM b [19] [] iv iv2 ∧ (∀ i' j, i < i' → i' ≤ X.length → j ≤ Y.length → iv2 (b + 19) (201 * i' + j) = nI (edt (lkF X Y) (X.length - i') (Y.length - j))) ∧ ∀ j, l ≤ j → j ≤ Y.length → iv2 (b + 19) (201 * i + j) = nI (edt (lkF X Y) (X.length - i) (Y.length - j))) ?_ N (Y.length + 1) _ (by omega) ⟨iv1, Nat.le_refl _, by rw [nI_pred], f1, fun i' j h1 h2 h3 => g1 i' j (by omega) h2 h3, fun j h1 h2 => by omega⟩
    rintro l ⟨S, y0, y1, y2, y3, y4, y5⟩ Kc2 ⟨iv2, hl, hy2, f2, g2, g3⟩ ih2
    cases hy2
    dsimp only
    unfold fX8_findFar_11
    cases l with
    | zero =>
      refine zw.t (by decide) (ih i _ (by omega) ⟨iv2, by omega, by rw [Int32.sub_eq_add_neg], f2, fun i' j h1 h2 h3 => ?_⟩)
      by_cases e : i' = i
      · rw [e]; exact g3 j (by omega) h3
      · exact g2 i' j (by omega) h2 h3
    | succ j =>
      rw [nI_pred]
      refine zw.f (nI_pos (by omega)) ?_
      have hix : ∀ p q : Nat, (201 : Int32) * nI p + nI q = nI (201 * p + q) := fun p q => by rw [← nI_add, ← nI_mul]; rfl
      have store : ∀ v : Int32, v = nI (edt (lkF X Y) (X.length - i) (Y.length - j)) → zw (fX8_findFar_157 N Kc Kc2 (K, iv2, rv, lv) b (nI s) (nI X.length) (nI Y.length) (nI i) (nI j) v) (fun q => ∃ iv', q = (K, iv', rv, lv) ∧ fM b [19] [] iv iv' ∧ ∀ i j, i ≤ X.length → j ≤ Y.length → iv' (b + 19) (201 * i + j) = nI (edt (lkF X Y) (X.length - i) (Y.length - j))) := by
        intro v hv
        unfold fX8_findFar_157
        refine zw.e (zgr_at hL.o hL.r_far) ?_
        refine zw.e (zis_v hL.k_far (hix i j) (by omega) (by decide)) ?_
        refine ih2 j _ (by omega) ⟨_, by omega, by rw [Int32.sub_eq_add_neg], f2.put (r := 19) (by simp) _ _, fun i' j' h1 h2 h3 => ?_, fun j' h1 h2 => ?_⟩
        · rw [zu_o (by omega)]
          exact g2 i' j' h1 h2 h3
        · by_cases e : j' = j
          · rw [e, zu_s, hv]
          · rw [zu_o (by omega)]
            exact g3 j' (by omega) h2
      have hend : (i = X.length ∨ j = Y.length) → nI X.length - nI i + nI Y.length - nI j = nI (edt (lkF X Y) (X.length - i) (Y.length - j)) := by
        intro h
        rw [nI_sub (by omega), nI_add, nI_sub (by omega)]
        congr 1
        rcases h with h | h
        · rw [h, Nat.sub_self, edt_0]; omega
        · rw [h, Nat.sub_self, edt_a0]; omega
      by_cases c1 : i = X.length
      · refine zw.t (by rw [c1]) ?_
        unfold fX8_findFar_28 zlet
        exact store _ (hend (Or.inl c1))
      · refine zw.f (fun q => c1 ((nI_eq (by omega) (by omega)).mp q)) ?_
        by_cases c2 : j = Y.length
        · refine zw.t (by rw [c2]) ?_
          unfold fX8_findFar_28 zlet
          exact store _ (hend (Or.inr c2))
        · refine zw.f (fun q => c2 ((nI_eq (by omega) (by omega)).mp q)) ?_
          refine zw.e (zgr_at hL.o hL.r_far) ?_
          refine zw.e (zil_v (j := 201 * (i + 1) + (j + 1)) hL.k_far (by rw [nI_1 i, hix, nI_1]; rfl) (by omega) (by decide) (g2 (i + 1) (j + 1) (by omega) (by omega) (by omega))) ?_
          refine zw.e (zrc_at hL.o) ?_
          refine zw.e2 (m_first hL hs (hS1.fr f2 (by decide)) hX (show i < X.length by omega)) ?_
          refine zw.e (zrc_at hL.o) ?_
          refine zw.e2 (m_second hL hs (hS2.fr f2 (by decide)) hY (show j < Y.length by omega)) ?_
          have ea : X.length - i = (X.length - (i + 1)) + 1 := by omega
          have eb : Y.length - j = (Y.length - (j + 1)) + 1 := by omega
          have hm1 := edt_max (lkF X Y) (X.length - (i + 1)) (Y.length - (j + 1))
          have hm2 := edt_max (lkF X Y) (X.length - (i + 1)) (Y.length - j)
          have hm3 := edt_max (lkF X Y) (X.length - i) (Y.length - (j + 1))
          have three : ∀ d : Nat, d = (if lkF X Y (X.length - (i + 1)) (Y.length - (j + 1)) then 0 else 1) → zw (fX8_findFar_82 N Kc Kc2 (K, iv2, rv, lv) b (nI s) (nI X.length) (nI Y.length) (nI i) (nI j) (nI (edt (lkF X Y) (X.length - (i + 1)) (Y.length - (j + 1)))) (nI d)) (fun q => ∃ iv', q = (K, iv', rv, lv) ∧ fM b [19] [] iv iv' ∧ ∀ i j, i ≤ X.length → j ≤ Y.length → iv' (b + 19) (201 * i + j) = nI (edt (lkF X Y) (X.length - i) (Y.length - j))) := by
            intro d hd
            have hdl : d ≤ 1 := by rw [hd]; split <;> omega
            have hval : edt (lkF X Y) (X.length - i) (Y.length - j) = min (edt (lkF X Y) (X.length - (i + 1)) (Y.length - (j + 1)) + d) (min (edt (lkF X Y) (X.length - (i + 1)) (Y.length - j) + 1) (edt (lkF X Y) (X.length - i) (Y.length - (j + 1)) + 1)) := by
              rw [hd, ea, eb, edt_ss]
            unfold fX8_findFar_82 fX8_findFar_139 fX8_findFar_155
            refine zw.e (zgr_at hL.o hL.r_far) ?_
            refine zw.e (zil_v (j := 201 * (i + 1) + j) hL.k_far (by rw [nI_1 i, hix]) (by omega) (by decide) (g2 (i + 1) j (by omega) (by omega) (by omega))) ?_
            refine zw.e (zgr_at hL.o hL.r_far) ?_
            refine zw.e (zil_v (j := 201 * i + (j + 1)) hL.k_far (by rw [hix, nI_1]; rfl) (by omega) (by decide) (g3 (j + 1) (by omega) (by omega))) ?_
            rw [nI_add, nI_1, nI_1]
            refine zw.it (fun c => zw.it (fun c' => store _ ?_) (fun c' => store _ ?_)) (fun c => zw.it (fun c' => store _ ?_) (fun c' => store _ ?_)) <;> rw [nI_leI (by omega) (by omega)] at c c' <;> rw [hval] <;> congr 1 <;> omega
          refine zw.it (fun c => three 0 ?_) (fun c => three 1 ?_)
          · rw [if_pos]
            unfold lkF
            rw [show X.length - 1 - (X.length - (i + 1)) = i by omega, show Y.length - 1 - (Y.length - (j + 1)) = j by omega, decide_eq_true c]
          · rw [if_neg]
            unfold lkF
            rw [show X.length - 1 - (X.length - (i + 1)) = i by omega, show Y.length - 1 - (Y.length - (j + 1)) = j by omega, decide_eq_false c]
            decide
end M15
