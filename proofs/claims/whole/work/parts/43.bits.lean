/-! sets as bits of an int -/
theorem bt_lt {x : Int32} {i : Nat} (h : bt x i = true) : i < 32 := by
  apply Nat.lt_of_not_le
  intro q
  rw [b_big q] at h
  cases h
theorem bt_1 (i : Nat) : bt 1 i = decide (i = 0) := by
  by_cases h : i < 32
  · have key : ∀ j : Fin 32, bt 1 j.val = decide (j.val = 0) := by decide +kernel
    exact key ⟨i, h⟩
  · rw [b_big (by omega), decide_eq_false (by omega)]
/-- the last bit -/
theorem and1 (x : Int32) : x &&& 1 = if bt x 0 then 1 else 0 := by
  apply b_ext
  intro i hi
  rw [b_and, bt_1]
  by_cases e : i = 0
  · subst e
    cases hb : bt x 0 <;> simp [b_0, bt_1]
  · cases hb : bt x 0 <;> simp [e, b_0, bt_1]
theorem and1_0 (x : Int32) : x &&& 1 = 0 ↔ bt x 0 = false := by
  rw [and1]
  cases bt x 0 <;> simp
theorem and1_1 (x : Int32) : x &&& 1 = 1 ↔ bt x 0 = true := by
  rw [and1]
  cases bt x 0 <;> simp
/-- a bit, by either shift -/
theorem shr_0 {x : Int32} {k : Nat} (hk : k < 32) : (x >>> (nI k &&& 31)) &&& 1 = 0 ↔ bt x k = false := by
  rw [and1_0, b_sshr k hk x (by decide), Nat.add_zero, if_pos hk]
theorem shr_1 {x : Int32} {k : Nat} (hk : k < 32) : (x >>> (nI k &&& 31)) &&& 1 = 1 ↔ bt x k = true := by
  rw [and1_1, b_sshr k hk x (by decide), Nat.add_zero, if_pos hk]
theorem ush_0 {x : Int32} {k : Nat} (hk : k < 32) : zush x (nI k) &&& 1 = 0 ↔ bt x k = false := by
  rw [and1_0]
  have := b_ushr k hk x 0
  rw [Nat.add_zero] at this
  rw [show bt (zush x (nI k)) 0 = bt x k from this]
theorem ush_1 {x : Int32} {k : Nat} (hk : k < 32) : zush x (nI k) &&& 1 = 1 ↔ bt x k = true := by
  rw [and1_1]
  have := b_ushr k hk x 0
  rw [Nat.add_zero] at this
  rw [show bt (zush x (nI k)) 0 = bt x k from this]
/-- one bit -/
theorem bt_one {k i : Nat} (hk : k < 32) (hi : i < 32) : bt ((1 : Int32) <<< (nI k &&& 31)) i = decide (i = k) := by
  rw [b_shl k hk _ hi, bt_1]
  by_cases e : i = k
  · subst e; simp
  · by_cases h : k ≤ i
    · have : ¬ i - k = 0 := by omega
      simp [e, this]
    · simp [e, h]
theorem bt_set {x : Int32} {k i : Nat} (hk : k < 32) (hi : i < 32) : bt (x ||| ((1 : Int32) <<< (nI k &&& 31))) i = (bt x i || decide (i = k)) := by
  rw [b_or, bt_one hk hi]
theorem bt_not (x : Int32) {i : Nat} (hi : i < 32) : bt (x ^^^ (-1)) i = !bt x i := by
  rw [b_xor, b_m1 i hi]
  cases bt x i <;> rfl
/-- the int whose bits are P's -/
def isS (x : Int32) (P : Nat → Bool) : Prop := ∀ i, i < 32 → bt x i = P i
theorem isS.eq {x y : Int32} {P : Nat → Bool} (hx : isS x P) (hy : isS y P) : x = y := b_ext fun i hi => (hx i hi).trans (hy i hi).symm
theorem isS.zero {P : Nat → Bool} (h : ∀ i, i < 32 → P i = false) : isS 0 P := fun i hi => by rw [b_0, h i hi]
/-- how many bits -/
def bC (x : Int32) : Nat := fb_ct (bt x) 32
theorem isS.bC {x : Int32} {P : Nat → Bool} (h : isS x P) : bC x = fb_ct P 32 := fb_ct_cong fun k hk => h k hk
/-! what a step uses -/
def usT (ins : Nat → List Nat) : Nat → Nat → Nat → Bool
  | 0 => fun _ _ => false
  | n + 1 => fun s k => if s = n then (decide (k = n) || (ins n).any fun i => decide (100 ≤ i) && usT ins n (i - 100) k) else usT ins n s k
abbrev usd (ins : Nat → List Nat) (s k : Nat) : Bool := usT ins (s + 1) s k
theorem usT_lt {ins : Nat → List Nat} {n s k : Nat} (hs : s < n) : usT ins n s k = usd ins s k := by
  induction n with
  | zero => omega
  | succ n ih =>
    by_cases e : s = n
    · subst e; rfl
    · rw [← ih (by omega)]
      show (if s = n then _ else _) = _
      rw [if_neg e]
/-- inputs are texts or earlier steps -/
def okP (nt ns : Nat) (ins : Nat → List Nat) : Prop := nt ≤ 20 ∧ ns ≤ 24 ∧ ∀ s, s < ns → ∀ i ∈ ins s, i < nt ∨ (100 ≤ i ∧ i < 100 + s)
theorem usd_iff {ins : Nat → List Nat} {nt ns s k : Nat} (h : okP nt ns ins) (hs : s < ns) : usd ins s k = true ↔ k = s ∨ ∃ i, i < s ∧ 100 + i ∈ ins s ∧ usd ins i k = true := by
  show (if s = s then (decide (k = s) || (ins s).any fun i => decide (100 ≤ i) && usT ins s (i - 100) k) else usT ins s s k) = true ↔ _
  rw [if_pos rfl, Bool.or_eq_true, decide_eq_true_eq, List.any_eq_true]
  constructor
  · rintro (e | ⟨i, hi, e⟩)
    · exact Or.inl e
    · rw [Bool.and_eq_true, decide_eq_true_eq] at e
      have h1 : i - 100 < s := by
        rcases h.2.2 s hs i hi with q | q
        · have := h.1; omega
        · omega
      refine Or.inr ⟨i - 100, h1, by rw [show 100 + (i - 100) = i by omega]; exact hi, ?_⟩
      rw [← usT_lt h1]
      exact e.2
  · rintro (e | ⟨i, h1, hi, e⟩)
    · exact Or.inl e
    · refine Or.inr ⟨100 + i, hi, ?_⟩
      rw [Bool.and_eq_true, decide_eq_true_eq, show 100 + i - 100 = i by omega, usT_lt h1]
      exact ⟨by omega, e⟩
theorem usd_le {ins : Nat → List Nat} {nt ns : Nat} (h : okP nt ns ins) : ∀ s, s < ns → ∀ k, usd ins s k = true → k ≤ s := by
  intro s
  induction s using Nat.strongRecOn with
  | ind s ih =>
    intro hs k hk
    rcases (usd_iff h hs).mp hk with e | ⟨i, h1, -, e⟩
    · omega
    · have := ih i h1 (by omega) k e
      omega
/-- the last edge -/
theorem usd_back {ins : Nat → List Nat} {nt ns : Nat} (h : okP nt ns ins) : ∀ s, s < ns → ∀ k, usd ins s k = true ↔ k = s ∨ ∃ m, m ≤ s ∧ usd ins s m = true ∧ 100 + k ∈ ins m := by
  intro s
  induction s using Nat.strongRecOn with
  | ind s ih =>
    intro hs k
    constructor
    · intro hk
      rcases (usd_iff h hs).mp hk with e | ⟨i, h1, hi, e⟩
      · exact Or.inl e
      · rcases (ih i h1 (by omega) k).mp e with e2 | ⟨m, hm, h2, h3⟩
        · exact Or.inr ⟨s, Nat.le_refl _, (usd_iff h hs).mpr (Or.inl rfl), by rw [e2]; exact hi⟩
        · exact Or.inr ⟨m, by omega, (usd_iff h hs).mpr (Or.inr ⟨i, h1, hi, h2⟩), h3⟩
    · rintro (e | ⟨m, hm, h2, h3⟩)
      · exact (usd_iff h hs).mpr (Or.inl e)
      · rcases (usd_iff h hs).mp h2 with e | ⟨i, h1, hi, e⟩
        · subst e
          have hk : k < m := by
            rcases h.2.2 m hs _ h3 with q | q
            · have := h.1; omega
            · omega
          exact (usd_iff h hs).mpr (Or.inr ⟨k, hk, h3, (usd_iff h (by omega)).mpr (Or.inl rfl)⟩)
        · have hmi : m ≤ i := usd_le h i (by omega) m e
          exact (usd_iff h hs).mpr (Or.inr ⟨i, h1, hi, (ih i h1 (by omega) k).mpr (Or.inr ⟨m, hmi, e, h3⟩)⟩)
theorem usd_self {ins : Nat → List Nat} {nt ns s : Nat} (h : okP nt ns ins) (hs : s < ns) : usd ins s s = true := (usd_iff h hs).mpr (Or.inl rfl)
theorem usd_trans {ins : Nat → List Nat} {nt ns : Nat} (h : okP nt ns ins) {s m k : Nat} (hs : s < ns) (h1 : usd ins s m = true) (h2 : usd ins m k = true) : usd ins s k = true := by
  have key : ∀ m, m ≤ s → usd ins s m = true → ∀ k, usd ins m k = true → usd ins s k = true := by
    intro m
    induction m using Nat.strongRecOn with
    | ind m ihm =>
      intro hms hsm k hk
      rcases (usd_iff h (show m < ns by omega)).mp hk with e | ⟨i, h3, hi, e⟩
      · rw [e]; exact hsm
      · exact ihm i h3 (by omega) ((usd_back h s hs i).mpr (Or.inr ⟨m, hms, hsm, hi⟩)) k e
  exact key m (usd_le h s hs m h1) h1 k h2
