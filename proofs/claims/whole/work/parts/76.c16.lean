/-! the class: the moves, sixteen to an int; one move chosen -/
/-- the move kept for a cell -/
def gM (b : Nat) (iv : Nat → Nat → Int32) (c : Nat) : Int32 := zush (iv (b + 173) (c / 16)) (nI (2 * (c % 16))) &&& 3
theorem bt_3 (i : Nat) : bt 3 i = decide (i < 2) := by
  rcases Nat.lt_or_ge i 32 with h | h
  · exact (by decide +kernel : ∀ i, i < 32 → bt 3 i = decide (i < 2)) i h
  · rw [b_big h, decide_eq_false (by omega)]
theorem zush_bt {x : Int32} {k : Nat} (hk : k < 32) (i : Nat) : bt (zush x (nI k)) i = bt x (k + i) := b_ushr k hk x i
theorem shr_4 {c : Nat} (hc : c < 40000) : nI c >>> ((4 : Int32) &&& 31) = nI (c / 16) := by
  apply b_ext
  intro i hi
  have h1 : bt (nI c >>> ((4 : Int32) &&& 31)) i = if 4 + i < 32 then bt (nI c) (4 + i) else bt (nI c) 31 := b_sshr 4 (by decide) (nI c) hi
  have h2 : (c / 16).testBit i = c.testBit (4 + i) := by
    rw [show (16 : Nat) = 2 ^ 4 from rfl, Nat.testBit_div_two_pow, Nat.add_comm]
  rw [h1, bt_nI hi, h2]
  by_cases h3 : 4 + i < 32
  · rw [if_pos h3, bt_nI h3]
  · rw [if_neg h3, bt_nI (by decide), Nat.testBit_lt_two_pow (Nat.lt_of_lt_of_le (show c < 2 ^ 31 by omega) (Nat.le_refl _)), Nat.testBit_lt_two_pow (Nat.lt_of_lt_of_le (show c < 2 ^ 31 by omega) (Nat.pow_le_pow_right (by decide) (by omega)))]
theorem low_4 (c : Nat) : (nI c &&& (15 : Int32)) * (2 : Int32) = nI (2 * (c % 16)) := by
  have h1 : nI c &&& (15 : Int32) = nI (c % 16) := fa_mask c 4
  rw [h1, show (2 : Int32) = nI 2 from rfl, nI_mul, Nat.mul_comm]
/-- two bits of an int set anew: these, and the others -/
theorem put2_in {x : Int32} {v k : Nat} (hv : v < 4) (hk : k ≤ 30) : zush ((x &&& (((3 : Int32) <<< (nI k &&& 31)) ^^^ (-1))) ||| (nI v <<< (nI k &&& 31))) (nI k) &&& 3 = nI v := by
  apply b_ext
  intro i hi
  rw [b_and, zush_bt (by omega), bt_3, bt_nI hi]
  by_cases h2 : i < 2
  · rw [b_or, b_and, bt_not _ (by omega), b_shl k (by omega) _ (show k + i < 32 by omega), b_shl k (by omega) _ (show k + i < 32 by omega), bt_3, show k + i - k = i by omega, bt_nI hi, decide_eq_true h2, decide_eq_true (show k ≤ k + i by omega)]
    simp
  · rw [decide_eq_false h2, Bool.and_false, Nat.testBit_lt_two_pow (Nat.lt_of_lt_of_le (show v < 2 ^ 2 from hv) (Nat.pow_le_pow_right (by decide) (by omega)))]
theorem put2_out {x : Int32} {v k j : Nat} (hv : v < 4) (hk : k ≤ 30) (hj : j ≤ 30) (h : j + 2 ≤ k ∨ k + 2 ≤ j) : zush ((x &&& (((3 : Int32) <<< (nI k &&& 31)) ^^^ (-1))) ||| (nI v <<< (nI k &&& 31))) (nI j) &&& 3 = zush x (nI j) &&& 3 := by
  apply b_ext
  intro i hi
  rw [b_and, b_and, zush_bt (by omega), zush_bt (by omega), bt_3]
  by_cases h2 : i < 2
  · congr 1
    rw [b_or, b_and, bt_not _ (by omega), b_shl k (by omega) _ (show j + i < 32 by omega), b_shl k (by omega) _ (show j + i < 32 by omega), bt_3]
    rcases h with h | h
    · rw [decide_eq_false (show ¬ k ≤ j + i by omega)]
      simp
    · rw [decide_eq_false (show ¬ j + i - k < 2 by omega), bt_nI (by omega), Nat.testBit_lt_two_pow (Nat.lt_of_lt_of_le (show v < 2 ^ 2 from hv) (Nat.pow_le_pow_right (by decide) (show 2 ≤ j + i - k by omega)))]
      simp
  · rw [decide_eq_false h2, Bool.and_false, Bool.and_false]
theorem zmn_nI {p q : Nat} (hp : p < 2 ^ 31) (hq : q < 2 ^ 31) : zmn (nI p) (nI q) = nI (min p q) := by
  unfold zmn
  by_cases h : q < p
  · rw [if_pos (nI_lt h hp), Nat.min_eq_right (by omega)]
  · rw [if_neg (nI_nlt (by omega) hq), Nat.min_eq_left (by omega)]
/-- which move it is -/
def mvV (f : Nat → Nat → Bool) (a c : Nat) : Nat := if f a c then 3 else if edt f a c + 1 = edt f (a + 1) (c + 1) then 0 else if edt f a (c + 1) + 1 = edt f (a + 1) (c + 1) then 1 else 2
theorem mvV_lt (f : Nat → Nat → Bool) (a c : Nat) : mvV f a c < 4 := by
  unfold mvV
  split
  · decide
  · split
    · decide
    · split <;> decide
section C16
variable {N b : Nat} {K : Nat → Option (Nat × Nat)} {iv : Nat → Nat → Int32} {rv : Nat → Nat → Option Nat} {lv : Nat → Nat → Int64} {l1 l2 : Nat} {f : Nat → Nat → Bool}
theorem c_putMove {i j v : Nat} (hL : cAli b l1 l2 K rv) (hi : i < 200) (hj : j < 200) (hv : v < 4) :
    zw (fX0_chooseMove_95 N (K, iv, rv, lv) (b + 169) (nI i) (nI j) (nI v)) (fun q => ∃ iv', q = (K, iv', rv, lv) ∧ fQ (fun c => c = b + 173) iv iv' ∧ gM b iv' (200 * i + j) = nI v ∧ ∀ c, c < 40000 → c ≠ 200 * i + j → gM b iv' c = gM b iv c) := by
  obtain ⟨a1, a2, a3, a4, a5, a6, a7, a8⟩ := hL
  have e0 : nI i * (200 : Int32) + nI j = nI (200 * i + j) := by rw [show (200 : Int32) = nI 200 from rfl, nI_mul, nI_add, Nat.mul_comm]
  unfold fX0_chooseMove_95 zlet
  rw [e0]
  generalize hc : 200 * i + j = c
  have hc4 : c < 40000 := by omega
  rw [shr_4 hc4, low_4]
  refine zw.e (zgr_at a1 a5.1) ?_
  refine zw.e (zgr_at a1 a5.1) ?_
  refine zw.e (zil_v a5.2 rfl (by omega) (by decide) rfl) ?_
  refine zw.e (zis_v a5.2 rfl (by omega) (by decide)) ?_
  refine zw.s ⟨_, rfl, fQ.put (A := fun c => c = b + 173) fQ.rf rfl _ _, ?_, fun c' h1 h2 => ?_⟩
  · unfold gM
    rw [zu_s]
    exact put2_in hv (by omega)
  · unfold gM
    by_cases e : c' / 16 = c / 16
    · rw [e, zu_s]
      exact put2_out hv (by omega) (by omega) (by omega)
    · rw [zu_o (fun q => e q.2)]
theorem c_chooseMove {i j a c : Nat} (hL : cAli b l1 l2 K rv) (hi : i < 200) (hj : j < 200) (ha : a < 200) (hcc : c < 200) (h1 : iv l2 (j + 1) = nI (edt f a c)) (h2 : iv l2 j = nI (edt f a (c + 1))) (h3 : iv l1 (j + 1) = nI (edt f (a + 1) c)) :
    zw (fX0_chooseMove N (K, iv, rv, lv) (b + 169) (nI i) (nI j) (if f a c then 1 else 0)) (fun q => ∃ iv', q = (K, iv', rv, lv) ∧ fQ (fun c => c = b + 173 ∨ c = l1) iv iv' ∧ iv' l1 j = nI (edt f (a + 1) (c + 1)) ∧ (∀ j', j' ≠ j → iv' l1 j' = iv l1 j') ∧ gM b iv' (200 * i + j) = nI (mvV f a c) ∧ ∀ c, c < 40000 → c ≠ 200 * i + j → gM b iv' c = gM b iv c) := by
  have hL2 := hL
  obtain ⟨a1, a2, a3, a4, a5, a6, a7, a8⟩ := hL
  have m1 := edt_max f a c
  have m2 := edt_max f a (c + 1)
  have m3 := edt_max f (a + 1) c
  have hl1 : l1 ≠ b + 173 := by omega
  have fin : ∀ x v : Nat, v = mvV f a c → x = edt f (a + 1) (c + 1) → zw (fX0_chooseMove_95 N (K, zu iv l1 j (nI x), rv, lv) (b + 169) (nI i) (nI j) (nI v)) (fun q => ∃ iv', q = (K, iv', rv, lv) ∧ fQ (fun c => c = b + 173 ∨ c = l1) iv iv' ∧ iv' l1 j = nI (edt f (a + 1) (c + 1)) ∧ (∀ j', j' ≠ j → iv' l1 j' = iv l1 j') ∧ gM b iv' (200 * i + j) = nI (mvV f a c) ∧ ∀ c, c < 40000 → c ≠ 200 * i + j → gM b iv' c = gM b iv c) := by
    intro x v hv hx
    refine zw.imp (c_putMove hL2 hi hj (by rw [hv]; exact mvV_lt f a c)) ?_
    rintro S ⟨iv', rfl, f1, g1, g2⟩
    refine ⟨iv', rfl, (fQ.put (A := fun c => c = b + 173 ∨ c = l1) fQ.rf (Or.inr rfl) _ _).tr (f1.mo (fun a h => Or.inl h)), ?_, fun j' hj' => ?_, by rw [g1, hv], fun c' h1 h2 => ?_⟩
    · rw [f1 _ _ hl1, zu_s, hx]
    · rw [f1 _ _ hl1, zu_o (fun q => hj' q.2)]
    · rw [g2 c' h1 h2]
      unfold gM
      rw [zu_o (fun q => hl1 q.1.symm)]
  unfold fX0_chooseMove fX0_chooseMove_0 fX0_chooseMove_93
  rw [nI_1 j]
  refine zw.e (zgr_at a1 a7.1) ?_
  refine zw.e (zil_v a7.2 rfl (by omega) (by decide) h1) ?_
  refine zw.e (zgr_at a1 a7.1) ?_
  refine zw.e (zil_v a7.2 rfl (by omega) (by decide) h2) ?_
  refine zw.e (zgr_at a1 a6.1) ?_
  refine zw.e (zil_v a6.2 rfl (by omega) (by decide) h3) ?_
  cases hf : f a c with
  | true =>
    refine zw.f (by rw [if_pos rfl]; decide) ?_
    refine zw.e (zgr_at a1 a6.1) ?_
    refine zw.e (zis_v a6.2 rfl (by omega) (by decide)) ?_
    exact fin _ 3 (by unfold mvV; rw [if_pos hf]) (edt_like hf).symm
  | false =>
    refine zw.t (by rw [if_neg (by decide)]) ?_
    have hu := edt_unlike hf
    unfold zlet
    rw [zmn_nI (p := edt f a (c + 1)) (by omega) (by omega), zmn_nI (by omega) (by omega)]
    refine zw.e (zgr_at a1 a6.1) ?_
    refine zw.e (zis_v a6.2 rfl (by omega) (by decide)) ?_
    rw [nI_1]
    have hne : ¬ f a c = true := by rw [hf]; decide
    by_cases e1 : edt f a c = min (edt f a c) (min (edt f a (c + 1)) (edt f (a + 1) c))
    · refine zw.t (by rw [← e1]) ?_
      exact fin _ 0 (by unfold mvV; rw [if_neg hne, if_pos (by omega)]) (by omega)
    · refine zw.f (fun q => e1 ((nI_eq (by omega) (by omega)).mp q)) ?_
      by_cases e2 : edt f a (c + 1) = min (edt f a c) (min (edt f a (c + 1)) (edt f (a + 1) c))
      · refine zw.t (by rw [← e2]) ?_
        exact fin _ 1 (by unfold mvV; rw [if_neg hne, if_neg (by omega), if_pos (by omega)]) (by omega)
      · refine zw.f (fun q => e2 ((nI_eq (by omega) (by omega)).mp q)) ?_
        exact fin _ 2 (by unfold mvV; rw [if_neg hne, if_neg (by omega), if_neg (by omega)]) (by omega)
/-- how many bytes are alike at the beginning -/
theorem c_likeAhead {ax ay nx ny : Nat} {X Y : List Int32} (hx : cRow K rv ax nx) (hX : cR iv ax X) (hy : cRow K rv ay ny) (hY : cR iv ay Y) (h1 : X.length ≤ nx) (h2 : Y.length ≤ ny) (hnx : nx ≤ 200) (hny : ny ≤ 200) (hN : 300 < N) : zw (fX0_likeAhead N (K, iv, rv, lv) ax ay) (fun q => ∃ st, q = (nI st, (K, iv, rv, lv)) ∧ st ≤ X.length ∧ st ≤ Y.length ∧ ∀ k, k < st → X.getD k 0 = Y.getD k 0) := by
  unfold fX0_likeAhead fX0_likeAhead_0
  refine zw.e (zgi_v hx.1 hX.1) ?_
  refine zw.e (zgi_v hy.1 hY.1) ?_
  rw [zmn_nI (by omega) (by omega)]
  have hm1 := Nat.min_le_left X.length Y.length
  have hm2 := Nat.min_le_right X.length Y.length
  generalize min X.length Y.length = mn at hm1 hm2
  unfold lX0_likeAhead_14
  refine zw.loop (fun t y => ∃ k, k + t = mn ∧ y = ((K, iv, rv, lv), ax, ay, nI mn, nI k) ∧ ∀ j, j < k → X.getD j 0 = Y.getD j 0) ?_ N mn _ (by omega) ⟨0, by omega, rfl, fun j hj => by omega⟩
  rintro t ⟨S, x0, x1, x2, x3⟩ Kc ⟨k, hk, hy', g⟩ ih
  cases hy'
  dsimp only
  unfold fX0_likeAhead_14
  by_cases ht : t = 0
  · exact zw.t (nI_le (by omega) (by omega)) (zw.s ⟨mn, rfl, hm1, hm2, fun j hj => g j (by omega)⟩)
  · refine zw.f (nI_ge (show k < mn by omega) (by omega)) ?_
    refine zw.e (zgr_at hx.1 hx.2.1) ?_
    refine zw.e (zib_v hx.2.2 rfl (by omega) (by omega) hX.1 (by omega) (by omega) (hX.at (by omega))) ?_
    refine zw.e (zgr_at hy.1 hy.2.1) ?_
    refine zw.e (zib_v hy.2.2 rfl (by omega) (by omega) hY.1 (by omega) (by omega) (hY.at (by omega))) ?_
    refine zw.it (fun c => ih (t - 1) _ (by omega) ⟨k + 1, by omega, by rw [nI_1 k], fun j hj => ?_⟩) (fun c => zw.s ⟨k, rfl, by omega, by omega, g⟩)
    by_cases e : j = k
    · rw [e]; exact c
    · exact g j (by omega)
end C16
