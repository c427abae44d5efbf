/-! the plan by itself: what a new step, a new input change; a thing hangs on its words alone -/
def uwd (ins : Nat → List Nat) (tl pb : Nat → Nat) (s w : Nat) : Bool := (List.range (s + 1)).any fun k => usd ins s k && rdW tl pb k w
theorem uwd_iff {ins : Nat → List Nat} {tl pb : Nat → Nat} {s w : Nat} : uwd ins tl pb s w = true ↔ ∃ k, k ≤ s ∧ usd ins s k = true ∧ rdW tl pb k w = true := by
  unfold uwd
  simp only [List.any_eq_true, List.mem_range, Bool.and_eq_true]
  constructor
  · rintro ⟨k, h1, h2, h3⟩; exact ⟨k, by omega, h2, h3⟩
  · rintro ⟨k, h1, h2, h3⟩; exact ⟨k, by omega, h2, h3⟩
theorem utx_iff {ins : Nat → List Nat} {U : Nat → Bool} {n t : Nat} : utx ins U n t = true ↔ ∃ k, k < n ∧ U k = true ∧ t ∈ ins k := by
  unfold utx
  simp only [List.any_eq_true, List.mem_range, Bool.and_eq_true, List.contains_iff_mem]
theorem usT_cong {ins ins' : Nat → List Nat} : ∀ n, (∀ j, j < n → ins' j = ins j) → usT ins' n = usT ins n
  | 0, _ => rfl
  | n + 1, h => by
    have ih := usT_cong n (fun j hj => h j (by omega))
    funext s k
    show (if s = n then (decide (k = n) || (ins' n).any fun i => decide (100 ≤ i) && usT ins' n (i - 100) k) else usT ins' n s k) = (if s = n then (decide (k = n) || (ins n).any fun i => decide (100 ≤ i) && usT ins n (i - 100) k) else usT ins n s k)
    rw [ih, h n (by omega)]
theorem usd_cong {ins ins' : Nat → List Nat} {s : Nat} (h : ∀ j, j ≤ s → ins' j = ins j) (k : Nat) : usd ins' s k = usd ins s k := by
  unfold usd
  rw [usT_cong (s + 1) (fun j hj => h j (by omega))]
theorem upB_eq {α : Type} {f : Nat → α} {t : Nat} {v : α} : upB f t v t = v := if_pos rfl
theorem upB_ne {α : Type} {f : Nat → α} {t j : Nat} {v : α} (h : j ≠ t) : upB f t v j = f j := if_neg h
theorem bool_iff {a c : Bool} (h : a = true ↔ c = true) : a = c := by
  cases a <;> cases c <;> simp at h ⊢
section PN
variable {nt ns : Nat} {ins : Nat → List Nat} {tl pb : Nat → Nat}
/-! a new step -/
theorem pn_usd {s : Nat} (hs : s < ns) (k : Nat) : usd (upB ins ns []) s k = usd ins s k := usd_cong (fun j hj => upB_ne (by omega)) k
theorem pn_self (k : Nat) : usd (upB ins ns []) ns k = decide (k = ns) := by
  show (if ns = ns then (decide (k = ns) || ((upB ins ns []) ns).any fun i => decide (100 ≤ i) && usT (upB ins ns []) ns (i - 100) k) else usT (upB ins ns []) ns ns k) = _
  rw [if_pos rfl, upB_eq]
  simp
theorem pn_utx {s : Nat} (hs : s < ns) (t : Nat) : utx (upB ins ns []) (usd (upB ins ns []) s) (s + 1) t = utx ins (usd ins s) (s + 1) t := by
  apply bool_iff
  rw [utx_iff, utx_iff]
  constructor
  · rintro ⟨k, h1, h2, h3⟩
    rw [pn_usd hs] at h2
    rw [upB_ne (by omega)] at h3
    exact ⟨k, h1, h2, h3⟩
  · rintro ⟨k, h1, h2, h3⟩
    exact ⟨k, h1, by rw [pn_usd hs]; exact h2, by rw [upB_ne (by omega)]; exact h3⟩
theorem pn_utxs (t : Nat) : utx (upB ins ns []) (usd (upB ins ns []) ns) (ns + 1) t = false := by
  rw [Bool.eq_false_iff]
  intro h
  obtain ⟨k, h1, h2, h3⟩ := utx_iff.mp h
  rw [pn_self, decide_eq_true_eq] at h2
  rw [h2, upB_eq] at h3
  cases h3
theorem rdW_ne {s n w x y : Nat} (h : s ≠ n) : rdW (upB tl n x) (upB pb n y) s w = rdW tl pb s w := by
  unfold rdW
  rw [upB_ne h, upB_ne h]
theorem pn_uwd {s x y : Nat} (hs : s < ns) (w : Nat) : uwd (upB ins ns []) (upB tl ns x) (upB pb ns y) s w = uwd ins tl pb s w := by
  apply bool_iff
  rw [uwd_iff, uwd_iff]
  constructor
  · rintro ⟨k, h1, h2, h3⟩
    rw [pn_usd hs] at h2
    rw [rdW_ne (by omega)] at h3
    exact ⟨k, h1, h2, h3⟩
  · rintro ⟨k, h1, h2, h3⟩
    exact ⟨k, h1, by rw [pn_usd hs]; exact h2, by rw [rdW_ne (by omega)]; exact h3⟩
theorem pn_uwds {x y : Nat} (w : Nat) : uwd (upB ins ns []) (upB tl ns x) (upB pb ns y) ns w = (decide (x = 1 ∨ x = 2 ∨ x = 5) && decide (w = y)) := by
  apply bool_iff
  rw [uwd_iff]
  constructor
  · rintro ⟨k, h1, h2, h3⟩
    rw [pn_self, decide_eq_true_eq] at h2
    rw [h2] at h3
    unfold rdW at h3
    rwa [upB_eq, upB_eq] at h3
  · intro h
    refine ⟨ns, Nat.le_refl _, by rw [pn_self]; simp, ?_⟩
    unfold rdW
    rwa [upB_eq, upB_eq]
theorem pn_tk {k : Nat} : isTk (ns + 1) (upB ins ns []) k ↔ isTk ns ins k := by
  constructor
  · rintro ⟨j, h1, h2, h3⟩
    by_cases e : j = ns
    · rw [e, upB_eq] at h3; cases h3
    · rw [upB_ne e] at h3; exact ⟨j, h1, by omega, h3⟩
  · rintro ⟨j, h1, h2, h3⟩
    exact ⟨j, h1, by omega, by rw [upB_ne (by omega)]; exact h3⟩
theorem pn_ok (h : okP nt ns ins) (hs : ns < 24) : okP nt (ns + 1) (upB ins ns []) := ⟨h.1, by omega, fun s hs i hi => by
  by_cases e : s = ns
  · rw [e, upB_eq] at hi; cases hi
  · rw [upB_ne e] at hi; exact h.2.2 s (by omega) i hi⟩
/-! a new input -/
variable {s i : Nat}
theorem pi_ok (h : okP nt ns ins) (hi : i < nt ∨ (100 ≤ i ∧ i < 100 + s)) : okP nt ns (upB ins s (ins s ++ [i])) := ⟨h.1, h.2.1, fun j hj k hk => by
  by_cases e : j = s
  · rw [e, upB_eq] at hk
    rcases List.mem_append.mp hk with hk | hk
    · rw [e]; exact h.2.2 s (by omega) k hk
    · rw [List.mem_singleton.mp hk, e]; exact hi
  · rw [upB_ne e] at hk; exact h.2.2 j hj k hk⟩
theorem pi_usd (h : okP nt ns ins) (hs : s < ns) (hi : i < nt ∨ (100 ≤ i ∧ i < 100 + s)) (ht : ¬ isTk ns ins s) : ∀ j, j < ns → j ≠ s → ∀ k, usd (upB ins s (ins s ++ [i])) j k = usd ins j k := by
  intro j
  induction j using Nat.strongRecOn with
  | ind j ih =>
    intro hj hne k
    apply bool_iff
    rw [usd_iff (pi_ok h hi) hj, usd_iff h hj, upB_ne hne]
    have key : ∀ m, m < j → 100 + m ∈ ins j → (usd (upB ins s (ins s ++ [i])) m k = true ↔ usd ins m k = true) := by
      intro m hm h2
      rw [ih m hm (by omega) (fun e => ht ⟨j, by omega, hj, by rw [← e]; exact h2⟩) k]
    constructor
    · rintro (e | ⟨m, h1, h2, h3⟩)
      · exact Or.inl e
      · exact Or.inr ⟨m, h1, h2, (key m h1 h2).mp h3⟩
    · rintro (e | ⟨m, h1, h2, h3⟩)
      · exact Or.inl e
      · exact Or.inr ⟨m, h1, h2, (key m h1 h2).mpr h3⟩
theorem pi_usds (h : okP nt ns ins) (hs : s < ns) (hi : i < nt ∨ (100 ≤ i ∧ i < 100 + s)) (ht : ¬ isTk ns ins s) (k : Nat) : usd (upB ins s (ins s ++ [i])) s k = true ↔ usd ins s k = true ∨ (100 ≤ i ∧ usd ins (i - 100) k = true) := by
  have hn := h.1
  rw [usd_iff (pi_ok h hi) hs, usd_iff h hs, upB_eq]
  constructor
  · rintro (e | ⟨m, h1, h2, h3⟩)
    · exact Or.inl (Or.inl e)
    · rw [pi_usd h hs hi ht m (by omega) (by omega)] at h3
      rcases List.mem_append.mp h2 with h2 | h2
      · exact Or.inl (Or.inr ⟨m, h1, h2, h3⟩)
      · have e := List.mem_singleton.mp h2
        refine Or.inr ⟨by omega, ?_⟩
        rw [← e, show 100 + m - 100 = m by omega]; exact h3
  · rintro ((e | ⟨m, h1, h2, h3⟩) | ⟨h1, h2⟩)
    · exact Or.inl e
    · exact Or.inr ⟨m, h1, List.mem_append.mpr (Or.inl h2), by rw [pi_usd h hs hi ht m (by omega) (by omega)]; exact h3⟩
    · refine Or.inr ⟨i - 100, by omega, List.mem_append.mpr (Or.inr (by rw [show 100 + (i - 100) = i by omega]; simp)), ?_⟩
      rw [pi_usd h hs hi ht _ (by omega) (by omega)]; exact h2
theorem tk_usd (h : okP nt ns ins) (ht : ¬ isTk ns ins s) {j : Nat} (hj : j < ns) (hne : j ≠ s) : usd ins j s = false := by
  rw [Bool.eq_false_iff]
  intro q
  rcases (usd_back h j hj s).mp q with e | ⟨m, h1, h2, h3⟩
  · exact hne e.symm
  · have hm : s < m := by
      rcases h.2.2 m (by omega) _ h3 with z | z
      · have := h.1; omega
      · omega
    exact ht ⟨m, hm, by omega, h3⟩
theorem pi_utx (h : okP nt ns ins) (hs : s < ns) (hi : i < nt ∨ (100 ≤ i ∧ i < 100 + s)) (ht : ¬ isTk ns ins s) {j : Nat} (hj : j < ns) (hne : j ≠ s) (t : Nat) : utx (upB ins s (ins s ++ [i])) (usd (upB ins s (ins s ++ [i])) j) (j + 1) t = utx ins (usd ins j) (j + 1) t := by
  apply bool_iff
  rw [utx_iff, utx_iff]
  have hk : ∀ k, usd ins j k = true → k ≠ s := fun k hk e => by
    rw [e, tk_usd h ht hj hne] at hk; cases hk
  constructor
  · rintro ⟨k, h1, h2, h3⟩
    rw [pi_usd h hs hi ht j hj hne] at h2
    rw [upB_ne (hk k h2)] at h3
    exact ⟨k, h1, h2, h3⟩
  · rintro ⟨k, h1, h2, h3⟩
    exact ⟨k, h1, by rw [pi_usd h hs hi ht j hj hne]; exact h2, by rw [upB_ne (hk k h2)]; exact h3⟩
theorem pi_utxs (h : okP nt ns ins) (hs : s < ns) (hi : i < nt ∨ (100 ≤ i ∧ i < 100 + s)) (ht : ¬ isTk ns ins s) (t : Nat) : utx (upB ins s (ins s ++ [i])) (usd (upB ins s (ins s ++ [i])) s) (s + 1) t = true ↔ utx ins (usd ins s) (s + 1) t = true ∨ t = i ∨ (100 ≤ i ∧ utx ins (usd ins (i - 100)) (i - 100 + 1) t = true) := by
  have hn := h.1
  rw [utx_iff, utx_iff, utx_iff]
  constructor
  · rintro ⟨k, h1, h2, h3⟩
    by_cases e : k = s
    · rw [e, upB_eq] at h3
      rcases List.mem_append.mp h3 with h3 | h3
      · exact Or.inl ⟨s, by omega, usd_self h hs, h3⟩
      · exact Or.inr (Or.inl (List.mem_singleton.mp h3))
    · rw [upB_ne e] at h3
      rcases (pi_usds h hs hi ht k).mp h2 with h2 | ⟨h2, h4⟩
      · exact Or.inl ⟨k, h1, h2, h3⟩
      · have := usd_le h (i - 100) (by omega) k h4
        exact Or.inr (Or.inr ⟨h2, k, by omega, h4, h3⟩)
  · rintro (⟨k, h1, h2, h3⟩ | e | ⟨h1, k, h2, h3, h4⟩)
    · refine ⟨k, h1, (pi_usds h hs hi ht k).mpr (Or.inl h2), ?_⟩
      by_cases e : k = s
      · rw [e, upB_eq]; rw [e] at h3; exact List.mem_append.mpr (Or.inl h3)
      · rw [upB_ne e]; exact h3
    · exact ⟨s, by omega, (pi_usds h hs hi ht s).mpr (Or.inl (usd_self h hs)), by rw [upB_eq, e]; simp⟩
    · refine ⟨k, by omega, (pi_usds h hs hi ht k).mpr (Or.inr ⟨h1, h3⟩), ?_⟩
      rw [upB_ne (by omega)]; exact h4
theorem pi_uwd (h : okP nt ns ins) (hs : s < ns) (hi : i < nt ∨ (100 ≤ i ∧ i < 100 + s)) (ht : ¬ isTk ns ins s) {j : Nat} (hj : j < ns) (hne : j ≠ s) (w : Nat) : uwd (upB ins s (ins s ++ [i])) tl pb j w = uwd ins tl pb j w := by
  apply bool_iff
  rw [uwd_iff, uwd_iff]
  constructor
  · rintro ⟨k, h1, h2, h3⟩
    rw [pi_usd h hs hi ht j hj hne] at h2
    exact ⟨k, h1, h2, h3⟩
  · rintro ⟨k, h1, h2, h3⟩
    exact ⟨k, h1, by rw [pi_usd h hs hi ht j hj hne]; exact h2, h3⟩
theorem pi_uwds (h : okP nt ns ins) (hs : s < ns) (hi : i < nt ∨ (100 ≤ i ∧ i < 100 + s)) (ht : ¬ isTk ns ins s) (w : Nat) : uwd (upB ins s (ins s ++ [i])) tl pb s w = true ↔ uwd ins tl pb s w = true ∨ (100 ≤ i ∧ uwd ins tl pb (i - 100) w = true) := by
  have hn := h.1
  rw [uwd_iff, uwd_iff, uwd_iff]
  constructor
  · rintro ⟨k, h1, h2, h3⟩
    rcases (pi_usds h hs hi ht k).mp h2 with h2 | ⟨h2, h4⟩
    · exact Or.inl ⟨k, h1, h2, h3⟩
    · exact Or.inr ⟨h2, k, usd_le h (i - 100) (by omega) k h4, h4, h3⟩
  · rintro (⟨k, h1, h2, h3⟩ | ⟨h1, k, h2, h3, h4⟩)
    · exact ⟨k, h1, (pi_usds h hs hi ht k).mpr (Or.inl h2), h3⟩
    · exact ⟨k, by omega, (pi_usds h hs hi ht k).mpr (Or.inr ⟨h1, h3⟩), h4⟩
theorem pi_tk (h : okP nt ns ins) (hs : s < ns) (hi : i < nt ∨ (100 ≤ i ∧ i < 100 + s)) {k : Nat} : isTk ns (upB ins s (ins s ++ [i])) k ↔ isTk ns ins k ∨ (100 ≤ i ∧ k = i - 100) := by
  have hn := h.1
  constructor
  · rintro ⟨j, h1, h2, h3⟩
    by_cases e : j = s
    · rw [e, upB_eq] at h3
      rcases List.mem_append.mp h3 with h3 | h3
      · exact Or.inl ⟨s, by omega, hs, h3⟩
      · have := List.mem_singleton.mp h3
        exact Or.inr ⟨by omega, by omega⟩
    · rw [upB_ne e] at h3; exact Or.inl ⟨j, h1, h2, h3⟩
  · rintro (⟨j, h1, h2, h3⟩ | ⟨h1, h2⟩)
    · refine ⟨j, h1, h2, ?_⟩
      by_cases e : j = s
      · rw [e, upB_eq]; rw [e] at h3; exact List.mem_append.mpr (Or.inl h3)
      · rw [upB_ne e]; exact h3
    · refine ⟨s, by omega, hs, ?_⟩
      rw [upB_eq, h2, show 100 + (i - 100) = i by omega]; simp
end PN
/-! a thing hangs on its words alone -/
section PT
variable {tx : Nat → List Int32} {lk : Nat → Bool} {tl : Nat → Nat} {pa : Nat → Int32} {pb : Nat → Nat} {ins : Nat → List Nat} {h h' : Nat → Int32} {nt ns : Nat}
theorem srcs_cong {f g : Nat → Option (List Int32)} : ∀ {l : List Nat}, (∀ i ∈ l, f i = g i) → srcs f l = srcs g l
  | [], _ => rfl
  | i :: l, e => by
    show (f i).bind (fun x => (srcs f l).bind fun r => some (x :: r)) = (g i).bind (fun x => (srcs g l).bind fun r => some (x :: r))
    rw [e i List.mem_cons_self, srcs_cong (fun j hj => e j (List.mem_cons_of_mem _ hj))]
theorem mk_cong {f g : Nat → Option (List Int32)} {s : Nat} (hn : nt ≤ 20) (hok : ∀ i ∈ ins s, i < nt ∨ (100 ≤ i ∧ i < 100 + s)) (e : ∀ j, 100 + j ∈ ins s → f j = g j) (hw : mk tx lk tl pa pb ins h f s = mk tx lk tl pa pb ins h' f s) : mk tx lk tl pa pb ins h f s = mk tx lk tl pa pb ins h' g s := by
  rw [hw]
  unfold mk
  rw [srcs_cong (f := src tx lk f) (g := src tx lk g) (fun i hi => ?_)]
  unfold src
  by_cases q : i < 100
  · rw [if_pos q, if_pos q]
  · rw [if_neg q, if_neg q]
    exact e (i - 100) (by rw [show 100 + (i - 100) = i by omega]; exact hi)
/-- what a step makes, out of what its inputs make -/
theorem thg_mk (hP : okP nt ns ins) {s : Nat} (hs : s < ns) : thg tx lk tl pa pb ins h s = mk tx lk tl pa pb ins h (thg tx lk tl pa pb ins h) s := by
  show (if s = s then mk tx lk tl pa pb ins h (tab tx lk tl pa pb ins h s) s else _) = _
  rw [if_pos rfl]
  exact mk_cong hP.1 (hP.2.2 s hs) (fun j hj => tab_lt (by rcases hP.2.2 s hs _ hj with q | q <;> have := hP.1 <;> omega)) rfl
theorem mkT_word {t : Nat} {a w w' : Int32} {Ls : List (List Int32)} (e : t = 1 ∨ t = 2 ∨ t = 5 → w = w') : mkT t a w Ls = mkT t a w' Ls := by
  by_cases q : t = 1 ∨ t = 2 ∨ t = 5
  · rw [e q]
  · have q1 : ¬ t = 1 := fun z => q (Or.inl z)
    have q2 : ¬ t = 2 := fun z => q (Or.inr (Or.inl z))
    have q3 : ¬ t = 5 := fun z => q (Or.inr (Or.inr z))
    unfold mkT jnT appT
    simp only [q1, q2, q3, if_false, false_and]
theorem thg_words (hP : okP nt ns ins) (hb : ∀ s, s < ns → pb s < 8) : ∀ s, s < ns → (∀ w, w < 8 → uwd ins tl pb s w = true → h w = h' w) → thg tx lk tl pa pb ins h s = thg tx lk tl pa pb ins h' s := by
  intro s
  induction s using Nat.strongRecOn with
  | ind s ih =>
    intro hs hw
    rw [thg_mk hP hs, thg_mk hP hs]
    refine mk_cong hP.1 (hP.2.2 s hs) (fun j hj => ?_) ?_
    · have hjs : j < s := by rcases hP.2.2 s hs _ hj with q | q <;> have := hP.1 <;> omega
      refine ih j hjs (by omega) (fun w h8 hu => hw w h8 ?_)
      obtain ⟨k, h1, h2, h3⟩ := uwd_iff.mp hu
      exact uwd_iff.mpr ⟨k, by omega, (usd_iff hP hs).mpr (Or.inr ⟨j, hjs, hj, h2⟩), h3⟩
    · unfold mk
      by_cases e : ins s = []
      · rw [if_pos e, if_pos e]
      · rw [if_neg e, if_neg e]
        cases srcs (src tx lk (thg tx lk tl pa pb ins h)) (ins s) with
        | none => rfl
        | some Ls =>
          refine mkT_word fun q => hw _ (hb s hs) ?_
          refine uwd_iff.mpr ⟨s, Nat.le_refl _, usd_self hP hs, ?_⟩
          unfold rdW
          rw [decide_eq_true q]
          simp
end PT
