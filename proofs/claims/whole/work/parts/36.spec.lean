/-! what a step makes -/
/-- where an input comes from -/
def src (tx : Nat → List Int32) (lk : Nat → Bool) (f : Nat → Option (List Int32)) (i : Nat) : Option (List Int32) := if i < 100 then (if lk i = true then none else some (tx i)) else f (i - 100)
def srcs (f : Nat → Option (List Int32)) : List Nat → Option (List (List Int32))
  | [] => some []
  | i :: l => (f i).bind fun x => (srcs f l).bind fun r => some (x :: r)
def tSort (J : List Int32) : List Int32 := (List.range 256).flatMap fun v => List.replicate (J.count (nI v)) (nI v)
def tHash (J : List Int32) : Int32 := J.foldl (fun h x => (h ^^^ x) * 16777619) 40503
def tSign (J : List Int32) : List Int32 := [zush (tHash J) 24 &&& 255, zush (tHash J) 16 &&& 255, zush (tHash J) 8 &&& 255, zush (tHash J) 0 &&& 255]
def appT (t : Nat) (a w : Int32) (J : List Int32) : Option (List Int32) :=
  if t = 1 then (if J.length < 200 then some (J ++ [w]) else none)
  else if t = 3 then some (J.filter fun x => decide (x ≠ a))
  else if t = 4 then some (J.map fun x => x ^^^ a)
  else if t = 6 then some (tSort J)
  else if t = 7 then some (tSign J)
  else some J
/-- the joined inputs -/
def jnT (t : Nat) (w : Int32) (Ls : List (List Int32)) : List Int32 := if t = 2 ∧ w &&& 1 = 1 then Ls.reverse.flatten else Ls.flatten
def mkT (t : Nat) (a w : Int32) (Ls : List (List Int32)) : Option (List Int32) :=
  if t = 5 then some (if w < a then Ls.headD [] else Ls.getLastD [])
  else if 200 < (jnT t w Ls).length then none else appT t a w (jnT t w Ls)
def mk (tx : Nat → List Int32) (lk : Nat → Bool) (tl : Nat → Nat) (pa : Nat → Int32) (pb : Nat → Nat) (ins : Nat → List Nat) (h : Nat → Int32) (f : Nat → Option (List Int32)) (s : Nat) : Option (List Int32) :=
  if ins s = [] then none else (srcs (src tx lk f) (ins s)).bind fun Ls => mkT (tl s) (pa s) (h (pb s)) Ls
def tab (tx : Nat → List Int32) (lk : Nat → Bool) (tl : Nat → Nat) (pa : Nat → Int32) (pb : Nat → Nat) (ins : Nat → List Nat) (h : Nat → Int32) : Nat → Nat → Option (List Int32)
  | 0 => fun _ => none
  | n + 1 => fun s => if s = n then mk tx lk tl pa pb ins h (tab tx lk tl pa pb ins h n) n else tab tx lk tl pa pb ins h n s
section SP
variable {tx : Nat → List Int32} {lk : Nat → Bool} {tl : Nat → Nat} {pa : Nat → Int32} {pb : Nat → Nat} {ins : Nat → List Nat} {h : Nat → Int32} {tp : List Int32} {nt ns : Nat}
theorem tab_lt {n s : Nat} (hs : s < n) : tab tx lk tl pa pb ins h n s = tab tx lk tl pa pb ins h (s + 1) s := by
  induction n with
  | zero => omega
  | succ n ih =>
    by_cases e : s = n
    · subst e; rfl
    · rw [← ih (by omega)]
      show (if s = n then _ else _) = _
      rw [if_neg e]
/-- a good thing: not too long, of bytes -/
def gT (L : List Int32) : Prop := L.length ≤ 200 ∧ ∀ x ∈ L, isB x
theorem isB_and (x : Int32) : isB (x &&& 255) := by
  obtain ⟨n, hn, e⟩ : ∃ n, n < 2 ^ 32 ∧ x = nI n := ⟨x.toBitVec.toNat, x.toBitVec.isLt, Int32.toBitVec_inj.mp (by show _ = BitVec.ofNat 32 _; simp)⟩
  refine ⟨n % 256, Nat.mod_lt _ (by decide), ?_⟩
  rw [e]
  exact fa_mask n 8
theorem isB_xor {x y : Int32} (hx : isB x) (hy : isB y) : isB (x ^^^ y) := by
  obtain ⟨v, hv, rfl⟩ := hx
  obtain ⟨w, hw, rfl⟩ := hy
  exact ⟨v ^^^ w, Nat.xor_lt_two_pow (n := 8) hv hw, nx_xor v w⟩
theorem srcs_len {f : Nat → Option (List Int32)} : ∀ {l : List Nat} {Ls : List (List Int32)}, srcs f l = some Ls → Ls.length = l.length
  | [], Ls, e => by cases e; rfl
  | i :: l, Ls, e => by
    obtain ⟨x, h1, e⟩ := zb_some e
    obtain ⟨r, h2, e⟩ := zb_some e
    cases e
    rw [List.length_cons, List.length_cons, srcs_len h2]
theorem srcs_at {f : Nat → Option (List Int32)} : ∀ {l : List Nat} {Ls : List (List Int32)}, srcs f l = some Ls → ∀ k, k < l.length → f (l.getD k 0) = some (Ls.getD k [])
  | [], Ls, e, k, hk => by simp at hk
  | i :: l, Ls, e, k, hk => by
    obtain ⟨x, h1, e⟩ := zb_some e
    obtain ⟨r, h2, e⟩ := zb_some e
    cases e
    cases k with
    | zero => exact h1
    | succ k => exact srcs_at h2 k (by simpa using hk)
theorem srcs_none {f : Nat → Option (List Int32)} : ∀ {l : List Nat}, srcs f l = none ↔ ∃ i ∈ l, f i = none
  | [] => by simp [srcs]
  | i :: l => by
    have ih := srcs_none (f := f) (l := l)
    simp only [srcs]
    cases h1 : f i with
    | none => simp [h1]
    | some x =>
      cases h2 : srcs f l with
      | none =>
        obtain ⟨j, hj, e⟩ := ih.mp h2
        simp only [Option.bind_some, Option.bind_none, true_iff]
        exact ⟨j, List.mem_cons_of_mem _ hj, e⟩
      | some r =>
        simp only [Option.bind_some]
        constructor
        · intro q; cases q
        · rintro ⟨j, hj, e⟩
          rcases List.mem_cons.mp hj with rfl | hj
          · rw [h1] at e; cases e
          · have := ih.mpr ⟨j, hj, e⟩
            rw [h2] at this; cases this
theorem srcs_all {f : Nat → Option (List Int32)} {P : List Int32 → Prop} : ∀ {l : List Nat} {Ls : List (List Int32)}, srcs f l = some Ls → (∀ i ∈ l, ∀ L, f i = some L → P L) → ∀ L ∈ Ls, P L
  | [], Ls, e, _, L, hL => by cases e; cases hL
  | i :: l, Ls, e, hP, L, hL => by
    obtain ⟨x, h1, e⟩ := zb_some e
    obtain ⟨r, h2, e⟩ := zb_some e
    cases e
    rcases List.mem_cons.mp hL with rfl | hL
    · exact hP i List.mem_cons_self L h1
    · exact srcs_all h2 (fun j hj => hP j (List.mem_cons_of_mem _ hj)) L hL
theorem tSort_len (J : List Int32) (hJ : ∀ x ∈ J, isB x) : (tSort J).length = J.length := by
  have key : ∀ (J : List Int32), (∀ x ∈ J, isB x) → ∀ n, fb_sm (fun v => J.count (nI v)) n = (J.filter (fun x => decide (∃ v, v < n ∧ x = nI v))).length → True := fun _ _ _ _ => trivial
  have h1 : ∀ (n : Nat) (J : List Int32), ((List.range n).flatMap fun v => List.replicate (J.count (nI v)) (nI v)).length = fb_sm (fun v => J.count (nI v)) n := by
    intro n J
    induction n with
    | zero => rfl
    | succ n ih => rw [List.range_succ, List.flatMap_append, List.length_append, ih]; simp [fb_sm]
  show ((List.range 256).flatMap _).length = _
  rw [h1]
  clear key
  induction J with
  | nil =>
    have : ∀ n, fb_sm (fun v => ([] : List Int32).count (nI v)) n = 0 := fun n => by induction n with
      | zero => rfl
      | succ n ih => rw [fb_sm_succ, ih]; rfl
    rw [this]; rfl
  | cons x J ih =>
    obtain ⟨v, hv, e⟩ := hJ x List.mem_cons_self
    have hc : ∀ k, k < 256 → (x :: J).count (nI k) = if k = v then J.count (nI v) + 1 else J.count (nI k) := by
      intro k hk
      rw [List.count_cons, e]
      by_cases q : k = v
      · rw [if_pos q, q]; simp
      · have : ¬ nI v = nI k := fun z => q ((nI_eq (by omega) (by omega)).mp z).symm
        rw [if_neg q]; simp [this]
    rw [fb_sm_cong hc]
    have h2 := fb_sm_upd (fun k => J.count (nI k)) (J.count (nI v) + 1) hv
    have h3 := ih (fun y hy => hJ y (List.mem_cons_of_mem _ hy))
    rw [List.length_cons]
    omega
theorem flat_len {Ls : List (List Int32)} : Ls.reverse.flatten.length = Ls.flatten.length := by
  simp [List.length_flatten, List.sum_reverse]
theorem jn_len {t : Nat} {w : Int32} {Ls : List (List Int32)} : (jnT t w Ls).length = Ls.flatten.length := by
  unfold jnT
  split
  · exact flat_len
  · rfl
theorem jn_mem {t : Nat} {w x : Int32} {Ls : List (List Int32)} (hx : x ∈ jnT t w Ls) : ∃ L ∈ Ls, x ∈ L := by
  unfold jnT at hx
  split at hx
  · obtain ⟨L, h1, h2⟩ := List.mem_flatten.mp hx
    exact ⟨L, List.mem_reverse.mp h1, h2⟩
  · obtain ⟨L, h1, h2⟩ := List.mem_flatten.mp hx
    exact ⟨L, h1, h2⟩
theorem mkT_good {t : Nat} {a w : Int32} {Ls : List (List Int32)} {L : List Int32} (ha : isB a) (hw : isB w) (hLs : ∀ L ∈ Ls, gT L) (he : mkT t a w Ls = some L) : gT L := by
  unfold mkT at he
  split at he
  · cases he
    split
    · cases Ls with
      | nil => exact ⟨by simp, fun x hx => by cases hx⟩
      | cons y r => exact hLs y List.mem_cons_self
    · cases hr : Ls.getLast? with
      | none => rw [List.getLastD_eq_getLast?, hr]; exact ⟨by simp, fun x hx => by cases hx⟩
      | some y => rw [List.getLastD_eq_getLast?, hr]; exact hLs y (List.mem_of_getLast? hr)
  · split at he
    · cases he
    · next hl =>
      have hJ : ∀ x ∈ jnT t w Ls, isB x := fun x hx => by
        obtain ⟨L, h1, h2⟩ := jn_mem hx
        exact (hLs L h1).2 x h2
      generalize jnT t w Ls = J at he hl hJ
      unfold appT at he
      split at he
      · split at he
        · cases he
          refine ⟨by simp; omega, fun x hx => ?_⟩
          rcases List.mem_append.mp hx with hx | hx
          · exact hJ x hx
          · rw [List.mem_singleton.mp hx]; exact hw
        · cases he
      · split at he
        · cases he
          exact ⟨Nat.le_trans (List.length_filter_le _ _) (by omega), fun x hx => hJ x (List.mem_filter.mp hx).1⟩
        · split at he
          · cases he
            refine ⟨by simp; omega, fun x hx => ?_⟩
            obtain ⟨y, hy, rfl⟩ := List.mem_map.mp hx
            exact isB_xor (hJ y hy) ha
          · split at he
            · cases he
              refine ⟨by rw [tSort_len J hJ]; omega, fun x hx => ?_⟩
              unfold tSort at hx
              obtain ⟨v, hv, hx⟩ := List.mem_flatMap.mp hx
              rw [List.eq_of_mem_replicate hx]
              exact ⟨v, List.mem_range.mp hv, rfl⟩
            · split at he
              · cases he
                refine ⟨by simp [tSign], fun x hx => ?_⟩
                simp only [tSign, List.mem_cons, List.not_mem_nil, or_false] at hx
                rcases hx with rfl | rfl | rfl | rfl <;> exact isB_and _
              · cases he
                exact ⟨by omega, hJ⟩
theorem src_good {f : Nat → Option (List Int32)} {i : Nat} {L : List Int32} (hd : dT tp nt tx lk) (hf : ∀ s L, f s = some L → gT L) (hi : i < nt ∨ 100 ≤ i) (he : src tx lk f i = some L) : gT L := by
  unfold src at he
  have hn := hd.2.1
  split at he
  · split at he
    · cases he
    · cases he
      have hi' : i < nt := by omega
      exact ⟨Nat.le_trans (hd.2.2.1 i hi') (by decide), hd.2.2.2.2.2 i hi'⟩
  · exact hf _ _ he
theorem tab_good (hdT : dT tp nt tx lk) (hdP : dP nt ns tl pa pb ins) (hh : ∀ w, w < 8 → isB (h w)) : ∀ n, n ≤ ns → ∀ s L, tab tx lk tl pa pb ins h n s = some L → gT L := by
  intro n
  induction n with
  | zero => intro _ s L e; cases e
  | succ n ih =>
    intro hn s L e
    have e2 : (if s = n then mk tx lk tl pa pb ins h (tab tx lk tl pa pb ins h n) n else tab tx lk tl pa pb ins h n s) = some L := e
    split at e2
    · unfold mk at e2
      split at e2
      · cases e2
      · obtain ⟨Ls, h1, h2⟩ := zb_some e2
        obtain ⟨-, g2, g3, g4, g5⟩ := hdP.2 n (by omega)
        refine mkT_good g2 (hh _ g3) (fun L hL => ?_) h2
        exact srcs_all h1 (fun i hi L hL => src_good hdT (ih (by omega)) (by rcases g5 i hi with q | q <;> omega) hL) L hL
    · exact ih (by omega) s L e2
end SP
