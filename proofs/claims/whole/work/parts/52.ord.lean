/-! in how many orders -/
theorem sh_pow : ∀ n, n < 31 → (1 : Int32) <<< (nI n &&& 31) = nI (2 ^ n) := by decide +kernel
/-- a set without one of it -/
abbrev rmv (t k : Nat) : Nat := t ^^^ 2 ^ k
theorem rmv_bit (t k i : Nat) : (rmv t k).testBit i = (t.testBit i ^^ decide (i = k)) := fb_bit_flip t k i
theorem rmv_lt : ∀ {k t : Nat}, t.testBit k = true → rmv t k < t
  | 0, t, h => by
    have h1 : (rmv t 0) / 2 = t / 2 := by
      rw [Nat.xor_div_two]
      show t / 2 ^^^ 0 = t / 2
      rw [Nat.xor_zero]
    have h2 : (rmv t 0).testBit 0 = false := by rw [rmv_bit, h]; simp
    rw [Nat.testBit_zero] at h2 h
    have e1 : ¬ rmv t 0 % 2 = 1 := by simpa using h2
    have e2 : t % 2 = 1 := by simpa using h
    omega
  | k + 1, t, h => by
    have h1 : (rmv t (k + 1)) / 2 = rmv (t / 2) k := by
      rw [Nat.xor_div_two]
      congr 1
      rw [Nat.pow_succ]
      omega
    rw [Nat.testBit_succ] at h
    have h2 := rmv_lt h
    omega
/-- may k be the last one done of the set t -/
abbrev okL (nd : Nat → Int32) (t k : Nat) : Prop := t.testBit k = true ∧ nd k &&& (nI (rmv t k) ^^^ (-1)) = 0
def wyT (n : Nat) (nd : Nat → Int32) : Nat → Nat → Nat
  | 0 => fun _ => 0
  | t + 1 => fun u => if u = t then (if t = 0 then 1 else fb_sm (fun k => if okL nd t k then wyT n nd t (rmv t k) else 0) n) else wyT n nd t u
abbrev wys (n : Nat) (nd : Nat → Int32) (t : Nat) : Nat := wyT n nd (t + 1) t
theorem wyT_lt {n : Nat} {nd : Nat → Int32} {t u : Nat} (h : u < t) : wyT n nd t u = wys n nd u := by
  induction t with
  | zero => omega
  | succ t ih =>
    by_cases e : u = t
    · subst e; rfl
    · rw [← ih (by omega)]
      show (if u = t then _ else _) = _
      rw [if_neg e]
theorem wys_0 {n : Nat} {nd : Nat → Int32} : wys n nd 0 = 1 := rfl
theorem wys_s {n : Nat} {nd : Nat → Int32} {t : Nat} (ht : t ≠ 0) : wys n nd t = fb_sm (fun k => if okL nd t k then wys n nd (rmv t k) else 0) n := by
  show (if t = t then (if t = 0 then 1 else _) else _) = _
  rw [if_pos rfl, if_neg ht]
  apply fb_sm_cong
  intro k _
  by_cases h : okL nd t k
  · rw [if_pos h, if_pos h, wyT_lt (rmv_lt h.1)]
  · rw [if_neg h, if_neg h]
theorem wys_cong {n : Nat} {nd nd' : Nat → Int32} (h : ∀ k, k < n → nd k = nd' k) : ∀ t, wys n nd t = wys n nd' t := by
  intro t
  induction t using Nat.strongRecOn with
  | ind t ih =>
    by_cases e : t = 0
    · subst e; rfl
    · rw [wys_s e, wys_s e]
      apply fb_sm_cong
      intro k hk
      by_cases hq : okL nd t k
      · rw [if_pos hq, if_pos ⟨hq.1, by rw [← h k hk]; exact hq.2⟩]
        exact ih _ (rmv_lt hq.1)
      · rw [if_neg hq, if_neg (fun q => hq ⟨q.1, by rw [h k hk]; exact q.2⟩)]
theorem fb_sm_z {f : Nat → Nat} : ∀ {n : Nat}, (∀ k, k < n → f k = 0) → fb_sm f n = 0
  | 0, _ => rfl
  | n + 1, h => by rw [fb_sm_succ, fb_sm_z (fun k hk => h k (by omega)), h n (by omega)]
/-- further places count for nothing -/
theorem wys_ext {n m : Nat} {nd : Nat → Int32} (hnm : n ≤ m) : ∀ t, t < 2 ^ n → wys m nd t = wys n nd t := by
  intro t
  induction t using Nat.strongRecOn with
  | ind t ih =>
    intro ht
    by_cases e : t = 0
    · subst e; rfl
    · rw [wys_s e, wys_s e]
      have h1 : fb_sm (fun k => if okL nd t k then wys m nd (rmv t k) else 0) m = fb_sm (fun k => if okL nd t k then wys m nd (rmv t k) else 0) n := by
        have h2 := fb_sm_split (fun k => if okL nd t k then wys m nd (rmv t k) else 0) n (m - n)
        rw [show n + (m - n) = m by omega] at h2
        have hz : fb_sm (fun k => if okL nd t (n + k) then wys m nd (rmv t (n + k)) else 0) (m - n) = 0 := fb_sm_z fun k _ => by
          rw [if_neg]
          intro q
          have := Nat.testBit_lt_two_pow (Nat.lt_of_lt_of_le ht (Nat.pow_le_pow_right (by decide) (show n ≤ n + k by omega)))
          rw [q.1] at this
          cases this
        rw [h2, hz]
        rfl
      rw [h1]
      apply fb_sm_cong
      intro k _
      by_cases hq : okL nd t k
      · rw [if_pos hq, if_pos hq]
        have := rmv_lt hq.1
        exact ih _ this (by omega)
      · rw [if_neg hq, if_neg hq]
theorem sub_iff {x y : Int32} : x &&& (y ^^^ (-1)) = 0 ↔ ∀ i, i < 32 → bt x i = true → bt y i = true := by
  constructor
  · intro h i hi hx
    have := congrArg (fun z => bt z i) h
    simp only [b_and, bt_not _ hi, b_0, hx] at this
    simpa using this
  · intro h
    apply b_ext
    intro i hi
    rw [b_and, bt_not _ hi, b_0]
    cases hx : bt x i with
    | false => rfl
    | true => rw [h i hi hx]; rfl
/-- a set from which something needed is missing can't be done -/
theorem wys_open {n : Nat} {nd : Nat → Int32} {x y : Nat} (hy : y < 32) (hxy : bt (nd x) y = true) : ∀ t, t.testBit x = true → t.testBit y = false → wys n nd t = 0 := by
  intro t
  induction t using Nat.strongRecOn with
  | ind t ih =>
    intro hx hny
    have e : t ≠ 0 := fun q => by rw [q, Nat.zero_testBit] at hx; cases hx
    rw [wys_s e]
    apply fb_sm_z
    intro k _
    by_cases hq : okL nd t k
    · rw [if_pos hq]
      have hky : k ≠ y := fun q => by rw [← q, hq.1] at hny; cases hny
      have hy2 : (rmv t k).testBit y = false := by rw [rmv_bit, hny, decide_eq_false (fun q => hky q.symm)]; rfl
      by_cases hkx : k = x
      · have h1 := sub_iff.mp hq.2 y hy (by rw [hkx]; exact hxy)
        rw [bt_nI hy, hy2] at h1
        cases h1
      · refine ih _ (rmv_lt hq.1) ?_ hy2
        rw [rmv_bit, hx, decide_eq_false (fun q => hkx q.symm)]
        rfl
    · rw [if_neg hq]
theorem full_bit (n i : Nat) : (2 ^ n - 1).testBit i = decide (i < n) := Nat.testBit_two_pow_sub_one n i
theorem full_rmv (n : Nat) : rmv (2 ^ (n + 1) - 1) n = 2 ^ n - 1 := by
  apply Nat.eq_of_testBit_eq
  intro i
  rw [rmv_bit, full_bit, full_bit]
  by_cases e : i = n
  · subst e; simp
  · by_cases h : i < n
    · simp [e, h, show i < n + 1 by omega]
    · simp [e, h, show ¬ i < n + 1 by omega]
/-- the last one is done last -/
theorem wys_last {n : Nat} {nd : Nat → Int32} (hn : n < 31) (h1 : ∀ k, k < n → ∃ x, x < n + 1 ∧ x ≠ k ∧ bt (nd x) k = true) (h2 : ∀ i, i < 32 → bt (nd n) i = true → i < n) : wys (n + 1) nd (2 ^ (n + 1) - 1) = wys n nd (2 ^ n - 1) := by
  have hpos : 2 ^ (n + 1) - 1 ≠ 0 := by
    have : 2 ^ 1 ≤ 2 ^ (n + 1) := Nat.pow_le_pow_right (by decide) (by omega)
    omega
  have hz : fb_sm (fun k => if okL nd (2 ^ (n + 1) - 1) k then wys (n + 1) nd (rmv (2 ^ (n + 1) - 1) k) else 0) n = 0 := fb_sm_z fun k hk => by
    obtain ⟨x, hx, hxk, hb⟩ := h1 k hk
    by_cases hq : okL nd (2 ^ (n + 1) - 1) k
    · rw [if_pos hq]
      refine wys_open (x := x) (y := k) (by omega) hb _ ?_ ?_
      · rw [rmv_bit, full_bit, decide_eq_true hx, decide_eq_false hxk]; rfl
      · rw [rmv_bit, full_bit, decide_eq_true (show k < n + 1 by omega)]; simp
    · rw [if_neg hq]
  have hok : okL nd (2 ^ (n + 1) - 1) n := ⟨by rw [full_bit]; simp, sub_iff.mpr fun i hi hb => by
    rw [bt_nI hi, full_rmv, full_bit]
    simpa using h2 i hi hb⟩
  have hp : 0 < 2 ^ n := Nat.two_pow_pos n
  rw [wys_s hpos, fb_sm_succ, hz, if_pos hok, full_rmv, Nat.zero_add]
  exact wys_ext (Nat.le_succ n) _ (by omega)
/-- the numbers of what a step needs -/
def ndP (U : Nat → Bool) (ins : Nat → List Nat) (k t : Nat) : Bool := (ins k).any fun i => decide (100 ≤ i) && decide (fb_ct U (i - 100) = t)
def ndPj (U : Nat → Bool) (L : List Nat) (t : Nat) : Bool := L.any fun i => decide (100 ≤ i) && decide (fb_ct U (i - 100) = t)
theorem ndPj_s {U : Nat → Bool} {L : List Nat} {j t : Nat} (hj : j < L.length) : ndPj U (L.take (j + 1)) t = (ndPj U (L.take j) t || (decide (100 ≤ L.getD j 0) && decide (fb_ct U (L.getD j 0 - 100) = t))) := by
  have e : L.take (j + 1) = L.take j ++ [L.getD j 0] := by
    rw [List.take_add_one, List.getD_eq_getElem?_getD, List.getElem?_eq_getElem hj]
    rfl
  rw [e]
  simp [ndPj]
/-- what orders answers -/
def spOrd (ins : Nat → List Nat) (s : Nat) (r : Int64) : Prop := (16 < fb_ct (usd ins s) (s + 1) → r = -4) ∧ (fb_ct (usd ins s) (s + 1) ≤ 16 → ∃ nd : Nat → Int32, (∀ k, k ≤ s → usd ins s k = true → nd (fb_ct (usd ins s) k) = ofS (ndP (usd ins s) ins k)) ∧ r = lN (wys (fb_ct (usd ins s) (s + 1)) nd (2 ^ fb_ct (usd ins s) (s + 1) - 1)))
theorem spOrd.one {ins : Nat → List Nat} {s : Nat} {r1 r2 : Int64} (h1 : spOrd ins s r1) (h2 : spOrd ins s r2) : r1 = r2 := by
  by_cases h : 16 < fb_ct (usd ins s) (s + 1)
  · rw [h1.1 h, h2.1 h]
  · obtain ⟨nd1, a1, e1⟩ := h1.2 (by omega)
    obtain ⟨nd2, a2, e2⟩ := h2.2 (by omega)
    rw [e1, e2]
    congr 1
    apply wys_cong
    intro r hr
    obtain ⟨k, hk, hu, e⟩ := fb_ct_kth hr
    rw [← e, a1 k (by omega) hu, a2 k (by omega) hu]
theorem usd_ct {ins : Nat → List Nat} {nt ns s : Nat} (h : okP nt ns ins) (hs : s < ns) : fb_ct (usd ins s) 32 = fb_ct (usd ins s) (s + 1) := by
  have hn := h.2.1
  have h1 := fb_ct_split (usd ins s) (s + 1) (32 - (s + 1))
  rw [show s + 1 + (32 - (s + 1)) = 32 by omega] at h1
  have hz : fb_ct (fun k => usd ins s (s + 1 + k)) (32 - (s + 1)) = 0 := fb_ct_zero.mpr fun k _ => by
    cases e : usd ins s (s + 1 + k) with
    | false => rfl
    | true => have := usd_le h s hs _ e; omega
  rw [h1, hz]
  rfl
