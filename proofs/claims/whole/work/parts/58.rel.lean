/-! rows whose array comes later: the virtual store V (each row has its array behind it) and the real one S -/
/-- x is no array of a row -/
def zn (rows : List Nat) (x : Nat) : Prop := ∀ a ∈ rows, x ≠ a + 1
/-- one row on both sides: its length n, its size s, its array at b -/
def zRo (lm z : Nat) (V S : zS) (a n s b : Nat) : Prop :=
  n ≤ 200 ∧ s ≤ n ∧ V.1 a = some (5, 0) ∧ S.1 a = some (5, 0) ∧ V.2.2.1 a 0 = some (a + 1) ∧ V.1 (a + 1) = some (9, n) ∧ S.2.1 a 0 = nI n ∧ V.2.1 a 1 = nI s ∧ S.2.1 a 2 = nI s ∧ S.2.2.1 a 1 = some b ∧
    ((b = a + 1 ∧ S.1 (a + 1) = some (9, 0) ∧ s = 0) ∨ (lm ≤ b ∧ b < z ∧ S.1 b = some (9, n) ∧ ∀ j, j < s → S.2.1 b j = V.2.1 (a + 1) j))
def zRow (lm z : Nat) (V S : zS) (a : Nat) : Prop := ∃ n s b : Nat, zRo lm z V S a n s b
/-- how many rows have no array yet -/
def zU (rv : Nat → Nat → Option Nat) (rows : List Nat) : Nat := rows.countP fun a => decide (rv a 1 = some (a + 1))
/-- where references lie: fields of objects, elements of arrays of references -/
def zrel (c n k : Nat) : Prop := (c < 9 ∧ (zF c)[k]? = some true) ∨ ((c = 12 ∨ c = 13) ∧ k < n)
def zR (rows : List Nat) (lm u z : Nat) (V S : zS) : Prop :=
  (∀ a ∈ rows, zRow lm z V S a) ∧
  (∀ a c n, V.1 a = some (c, n) → a ∉ rows → zn rows a → S.1 a = some (c, n) ∧ c ≠ 5 ∧ S.2.1 a = V.2.1 a ∧ S.2.2.1 a = V.2.2.1 a ∧ S.2.2.2 a = V.2.2.2 a ∧ a < z ∧ (c = 9 → a < lm)) ∧
  (∀ a c n k v, V.1 a = some (c, n) → a ∉ rows → zn rows a → zrel c n k → V.2.2.1 a k = some v → zn rows v) ∧
  (∀ a ∈ rows, ∀ a' ∈ rows, S.2.2.1 a 1 = S.2.2.1 a' 1 → a = a') ∧
  (∀ a ∈ rows, a + 1 < lm) ∧ lm ≤ z ∧ z + zU S.2.2.1 rows ≤ u
/-- what a simulated function gives -/
abbrev sQ {α : Type} (rows : List Nat) (lm u z : Nat) (r : α) (T : zS) : α × zS → Prop := fun q => q.1 = r ∧ zR rows lm u z T q.2
abbrev sA (rows : List Nat) (lm u z : Nat) (r : Nat) (T : zS) : Nat × zS → Prop := fun q => q.1 = r ∧ zn rows r ∧ zR rows lm u z T q.2
abbrev sV (rows : List Nat) (lm u z : Nat) (T : zS) : zS → Prop := fun q => zR rows lm u z T q
abbrev tQ {α : Type} (rows : List Nat) (lm u z : Nat) (r : α) (T : zS) : α × zS × Nat → Prop := fun q => q.1 = r ∧ z ≤ q.2.2 ∧ zR rows lm u q.2.2 T q.2.1
abbrev tV (rows : List Nat) (lm u z : Nat) (T : zS) : zS × Nat → Prop := fun q => z ≤ q.2 ∧ zR rows lm u q.2 T q.1
abbrev oQ {α : Type} (rows : List Nat) (lm D1 D2 zT : Nat) (r : α) (T : zS) : α × zS × Nat → Prop := fun q => q.1 = r ∧ q.2.2 = zT ∧ ∃ u, u + D1 = D2 + zT ∧ zR rows lm u zT T q.2.1
theorem zw_let {α β : Type} {e y : α} {F : α → Option β} {P : β → Prop} (ey : y = e) (h : zw (F y) P) : zw (zlet e F) P := by
  subst ey
  exact h
theorem zl_sim {α α' β β' : Type} {B : (α → Option β) → α → Option β} {B' : (α' → Option β') → α' → Option β'} {res : β} {Q : α' → β' → Prop} {I : α → α' → Prop} (h : ∀ (K : α → Option β) (K' : α' → Option β'), (∀ y y', I y y' → K y = some res → zw (K' y') (Q y')) → ∀ y y', I y y' → B K y = some res → zw (B' K' y') (Q y')) : ∀ (n : Nat) (y : α) (y' : α'), I y y' → zloop B n y = some res → zw (zloop B' n y') (Q y') := by
  intro n
  induction n with
  | zero => intro y y' _ hx; cases hx
  | succ n ih => intro y y' hI hx; exact h (zloop B n) (zloop B' n) ih y y' hI hx
section REL
variable {rows : List Nat} {lm u z : Nat} {V S V' S' : zS}
theorem zgeI_w {α : Type} {z1 : Nat} {F : Option (α × zS × Nat)} {r : α} {T : zS} (hz : z ≤ z1) (h : zw F (tQ rows lm u z1 r T)) : zw (zgeI z1 F) (tQ rows lm u z r T) := by
  obtain ⟨y, e, h1, h2, h3⟩ := h
  refine ⟨y, ?_, h1, Nat.le_trans hz h2, h3⟩
  unfold zgeI
  rw [e]
  exact if_pos h2
theorem zgeV_w {z1 : Nat} {F : Option (zS × Nat)} {T : zS} (hz : z ≤ z1) (h : zw F (tV rows lm u z1 T)) : zw (zgeV z1 F) (tV rows lm u z T) := by
  obtain ⟨y, e, h2, h3⟩ := h
  refine ⟨y, ?_, Nat.le_trans hz h2, h3⟩
  unfold zgeV
  rw [e]
  exact if_pos h2
theorem sc2 {α β : Type} {o : Option (α × zS)} {F : α → zS → Option β} {P : β → Prop} {r : α} {T : zS} (h : zw o (sQ rows lm u z r T)) (k : ∀ Sr, zR rows lm u z T Sr → zw (F r Sr) P) : zw (zb2 o F) P := by
  obtain ⟨⟨x, y⟩, e, h1, h2⟩ := h
  dsimp only at h1 h2
  subst h1
  rw [e]
  exact k y h2
theorem scA {β : Type} {o : Option (Nat × zS)} {F : Nat → zS → Option β} {P : β → Prop} {r : Nat} {T : zS} (h : zw o (sA rows lm u z r T)) (k : ∀ Sr, zn rows r → zR rows lm u z T Sr → zw (F r Sr) P) : zw (zb2 o F) P := by
  obtain ⟨⟨x, y⟩, e, h1, h2, h3⟩ := h
  dsimp only at h1 h3
  subst h1
  rw [e]
  exact k y h2 h3
theorem sc3 {α β : Type} {o : Option (α × zS × Nat)} {F : α → zS → Nat → Option β} {P : β → Prop} {r : α} {T : zS} (h : zw o (tQ rows lm u z r T)) (k : ∀ Sr z1, z ≤ z1 → zR rows lm u z1 T Sr → zw (F r Sr z1) P) : zw (zb3 o F) P := by
  obtain ⟨⟨x, y, z1⟩, e, h1, h2, h3⟩ := h
  dsimp only at h1 h2 h3
  subst h1
  rw [e]
  exact k y z1 h2 h3
theorem sc2z {β : Type} {o : Option (zS × Nat)} {F : zS → Nat → Option β} {P : β → Prop} {T : zS} (h : zw o (tV rows lm u z T)) (k : ∀ Sr z1, z ≤ z1 → zR rows lm u z1 T Sr → zw (F Sr z1) P) : zw (zb2 o F) P := by
  obtain ⟨⟨y, z1⟩, e, h2, h3⟩ := h
  dsimp only at h2 h3
  rw [e]
  exact k y z1 h2 h3
theorem sc3o {α β : Type} {D1 D2 z1 : Nat} {o : Option (α × zS × Nat)} {F : α → zS → Nat → Option β} {P : β → Prop} {r : α} {T : zS} (h : zw o (oQ rows lm D1 D2 z1 r T)) (k : ∀ Sr u, zR rows lm u z1 T Sr → u + D1 = D2 + z1 → zw (F r Sr z1) P) : zw (zb3 o F) P := by
  obtain ⟨⟨x, y, z2⟩, e, h1, h2, u', h3, h4⟩ := h
  dsimp only at h1 h2 h4
  subst h1
  subst h2
  rw [e]
  exact k y u' h4 h3
theorem zfin_some {α : Type} {MC MS q w : Nat} {x y : α} (h : zfin MC MS q w x = some y) : (q ≤ MC ∧ w ≤ MS) ∧ x = y := by
  unfold zfin at h
  split at h
  · next g => exact ⟨g, Option.some.inj h⟩
  · cases h
theorem zfin_w {α : Type} {MC MS q w : Nat} {x : α} {P : α → Prop} (hf : q ≤ MC ∧ w ≤ MS) (h : P x) : zw (zfin MC MS q w x) P := ⟨x, if_pos hf, h⟩
/-! what the relation says of a cell -/
theorem zR.r5 (h : zR rows lm u z V S) {a m : Nat} (hk : V.1 a = some (5, m)) : a ∈ rows := by
  by_cases ha : a ∈ rows
  · exact ha
  · exfalso
    by_cases hn : zn rows a
    · exact (h.2.1 a 5 m hk ha hn).2.1 rfl
    · apply hn
      intro a' ha' e
      obtain ⟨n, s, b, hr⟩ := h.1 a' ha'
      have := hr.2.2.2.2.2.1
      rw [← e, hk] at this
      cases this
theorem zR.oth (h : zR rows lm u z V S) {a c n : Nat} (hk : V.1 a = some (c, n)) (h5 : c ≠ 5) (h9 : c ≠ 9 ∨ zn rows a) : a ∉ rows ∧ zn rows a := by
  constructor
  · intro ha
    obtain ⟨n', s, b, hr⟩ := h.1 a ha
    have := hr.2.2.1
    rw [hk] at this
    cases this
    exact h5 rfl
  · rcases h9 with h9 | h9
    · intro a' ha' e
      obtain ⟨n', s, b, hr⟩ := h.1 a' ha'
      have := hr.2.2.2.2.2.1
      rw [← e, hk] at this
      cases this
      exact h9 rfl
    · exact h9
theorem zR.at (h : zR rows lm u z V S) {a c n : Nat} (hk : V.1 a = some (c, n)) (h5 : c ≠ 5) (h9 : c ≠ 9 ∨ zn rows a) : S.1 a = some (c, n) ∧ S.2.1 a = V.2.1 a ∧ S.2.2.1 a = V.2.2.1 a ∧ S.2.2.2 a = V.2.2.2 a ∧ a < z ∧ (c = 9 → a < lm) := by
  obtain ⟨h1, h2⟩ := h.oth hk h5 h9
  obtain ⟨q1, -, q2, q3, q4, q5, q6⟩ := h.2.1 a c n hk h1 h2
  exact ⟨q1, q2, q3, q4, q5, q6⟩
theorem zR.k (h : zR rows lm u z V S) {a c n : Nat} (hk : V.1 a = some (c, n)) (hn : zn rows a) : S.1 a = some (c, n) := by
  by_cases h5 : c = 5
  · subst h5
    obtain ⟨n', s, b, hr⟩ := h.1 a (h.r5 hk)
    rw [hr.2.2.2.1, ← hr.2.2.1]
    exact hk
  · exact (h.at hk h5 (Or.inr hn)).1
theorem zok_tr {a a' t : Nat} {i : Int32} (e : S.1 a' = V.1 a) (h : zok V a t i = true) : zok S a' t i = true := by
  unfold zok at h ⊢
  rw [e]
  exact h
/-! reading -/
theorem zR.gi (h : zR rows lm u z V S) {a c k : Nat} {v : Int32} (hc : c ≠ 5 ∧ c ≠ 9) (e : zgi V a c k = some v) : zgi S a c k = some v := by
  unfold zgi at e ⊢
  split at e
  · next hk =>
    obtain ⟨n, hn⟩ := zkd hk
    obtain ⟨q1, q2, -⟩ := h.at hn hc.1 (Or.inl hc.2)
    rw [if_pos (by rw [q1]; rfl), q2]
    exact e
  · cases e
theorem zR.gr (h : zR rows lm u z V S) {a c k v : Nat} (hc : c ≠ 5 ∧ c ≠ 9) (e : zgr V a c k = some v) : zgr S a c k = some v := by
  unfold zgr at e ⊢
  split at e
  · next hk =>
    obtain ⟨n, hn⟩ := zkd hk
    obtain ⟨q1, -, q2, -⟩ := h.at hn hc.1 (Or.inl hc.2)
    rw [if_pos (by rw [q1]; rfl), q2]
    exact e
  · cases e
theorem zR.gn (h : zR rows lm u z V S) {a c k v : Nat} (hc : (c ≠ 5 ∧ c ≠ 9) ∧ c < 9 ∧ (zF c)[k]? = some true) (e : zgr V a c k = some v) : zn rows v := by
  unfold zgr at e
  split at e
  · next hk =>
    obtain ⟨n, hn⟩ := zkd hk
    obtain ⟨h1, h2⟩ := h.oth hn hc.1.1 (Or.inl hc.1.2)
    exact h.2.2.1 a c n k v hn h1 h2 (Or.inl hc.2) e
  · cases e
theorem zgi_5 {a k : Nat} {v : Int32} (e : zgi V a 5 k = some v) : (∃ m, V.1 a = some (5, m)) ∧ V.2.1 a k = v := by
  unfold zgi at e
  split at e
  · next hk => exact ⟨zkd hk, Option.some.inj e⟩
  · cases e
theorem zR.gz (h : zR rows lm u z V S) {a : Nat} {v : Int32} (e : zgi V a 5 1 = some v) : zgi S a 5 2 = some v := by
  obtain ⟨⟨m, hm⟩, hv⟩ := zgi_5 e
  obtain ⟨n, s, b, hr⟩ := h.1 a (h.r5 hm)
  unfold zgi
  rw [if_pos (by rw [hr.2.2.2.1]; rfl), hr.2.2.2.2.2.2.2.2.1, ← hr.2.2.2.2.2.2.2.1, hv]
/-- the array of a row, on both sides -/
def zPt (rows : List Nat) (S : zS) (a v b : Nat) : Prop := a ∈ rows ∧ v = a + 1 ∧ S.2.2.1 a 1 = some b
theorem zR.gb (h : zR rows lm u z V S) {a v : Nat} (e : zgr V a 5 0 = some v) : ∃ b, zgr S a 5 1 = some b ∧ zPt rows S a v b := by
  unfold zgr at e
  split at e
  · next hk =>
    obtain ⟨m, hm⟩ := zkd hk
    obtain ⟨n, s, b, hr⟩ := h.1 a (h.r5 hm)
    refine ⟨b, ?_, h.r5 hm, ?_, hr.2.2.2.2.2.2.2.2.2.1⟩
    · unfold zgr
      rw [if_pos (by rw [hr.2.2.2.1]; rfl)]
      exact hr.2.2.2.2.2.2.2.2.2.1
    · rw [hr.2.2.2.2.1] at e
      exact (Option.some.inj e).symm
  · cases e
theorem zil_ok {a : Nat} {i v : Int32} (e : zil V a i = some v) : zok V a 9 i = true ∧ V.2.1 a i.toNatClampNeg = v := by
  unfold zil at e
  split at e
  · next hk => exact ⟨hk, Option.some.inj e⟩
  · cases e
theorem zis_ok {a : Nat} {i v : Int32} (e : zis V a i v = some V') : zok V a 9 i = true ∧ V' = (V.1, zu V.2.1 a i.toNatClampNeg v, V.2.2.1, V.2.2.2) := by
  unfold zis at e
  split at e
  · next hk => exact ⟨hk, (Option.some.inj e).symm⟩
  · cases e
/-- a place below the size: the row has its array -/
theorem zR.low (h : zR rows lm u z V S) {a v b : Nat} {i : Int32} (p : zPt rows S a v b) (hi : i < V.2.1 (v - 1) 1) (hk : zok V v 9 i = true) : ∃ n s, zRo lm z V S a n s b ∧ lm ≤ b ∧ b < z ∧ S.1 b = some (9, n) ∧ (∀ j, j < s → S.2.1 b j = V.2.1 (a + 1) j) ∧ i.toNatClampNeg < s ∧ zok S b 9 i = true := by
  obtain ⟨p1, rfl, p3⟩ := p
  obtain ⟨n, s, b', hr⟩ := h.1 a p1
  have hbb : b' = b := Option.some.inj (hr.2.2.2.2.2.2.2.2.2.1.symm.trans p3)
  subst hbb
  rw [Nat.add_sub_cancel, hr.2.2.2.2.2.2.2.1] at hi
  obtain ⟨n0, hn0, hin⟩ := zok_at hk
  have hpos : ¬ i < 0 := fun q => hin (Or.inl q)
  have hs2 : s ≤ 200 := Nat.le_trans hr.2.1 hr.1
  obtain ⟨j, hj, rfl⟩ := nI_in2 hpos hi (by omega)
  have hc : (nI j).toNatClampNeg = j := nI_clamp (by omega)
  rcases hr.2.2.2.2.2.2.2.2.2.2 with ⟨-, -, q⟩ | ⟨q1, q2, q3, q4⟩
  · omega
  · exact ⟨n, s, hr, q1, q2, q3, q4, by rw [hc]; exact hj, zok_tr (by rw [q3, hr.2.2.2.2.2.1]) hk⟩
theorem zR.ib (h : zR rows lm u z V S) {a v b : Nat} {i x : Int32} (p : zPt rows S a v b) (e : zib V v i = some x) : zil S b i = some x := by
  unfold zib at e
  split at e
  · next hi =>
    obtain ⟨hk, hx⟩ := zil_ok e
    obtain ⟨n, s, hr, q1, q2, q3, q4, q5, q6⟩ := h.low p hi hk
    unfold zil
    rw [if_pos q6, q4 _ q5, ← hx, p.2.1]
  · cases e
theorem zR.il (h : zR rows lm u z V S) {a : Nat} {i v : Int32} (hn : zn rows a) (e : zil V a i = some v) : zil S a i = some v := by
  obtain ⟨hk, hv⟩ := zil_ok e
  obtain ⟨n, hn9, -⟩ := zok_at hk
  obtain ⟨q1, q2, -⟩ := h.at hn9 (by decide) (Or.inr hn)
  unfold zil
  rw [if_pos (zok_tr (by rw [q1, hn9]) hk), q2, hv]
theorem zR.zl (h : zR rows lm u z V S) {a : Nat} {i v : Int32} (e : zzl V a i = some v) : zzl S a i = some v := by
  unfold zzl at e ⊢
  split at e
  · next hk =>
    obtain ⟨n, hn, -⟩ := zok_at hk
    obtain ⟨q1, q2, -⟩ := h.at hn (by decide) (Or.inl (by decide))
    rw [if_pos (zok_tr (by rw [q1, hn]) hk), q2]
    exact e
  · cases e
theorem zR.ll (h : zR rows lm u z V S) {a : Nat} {i : Int32} {v : Int64} (e : zll V a i = some v) : zll S a i = some v := by
  unfold zll at e ⊢
  split at e
  · next hk =>
    obtain ⟨n, hn, -⟩ := zok_at hk
    obtain ⟨q1, -, -, q2, -⟩ := h.at hn (by decide) (Or.inl (by decide))
    rw [if_pos (zok_tr (by rw [q1, hn]) hk), q2]
    exact e
  · cases e
theorem zR.al (h : zR rows lm u z V S) {a t v : Nat} {i : Int32} (hc : t ≠ 5 ∧ t ≠ 9) (e : zal V a t i = some v) : zal S a t i = some v := by
  unfold zal at e ⊢
  split at e
  · next hk =>
    obtain ⟨n, hn, -⟩ := zok_at hk
    obtain ⟨q1, -, q2, -⟩ := h.at hn hc.1 (Or.inl hc.2)
    rw [if_pos (zok_tr (by rw [q1, hn]) hk), q2]
    exact e
  · cases e
theorem zR.an (h : zR rows lm u z V S) {a t v : Nat} {i : Int32} (hc : (t ≠ 5 ∧ t ≠ 9) ∧ (t = 12 ∨ t = 13)) (e : zal V a t i = some v) : zn rows v := by
  unfold zal at e
  split at e
  · next hk =>
    obtain ⟨n, hn, hi⟩ := zok_at hk
    obtain ⟨h1, h2⟩ := h.oth hn hc.1.1 (Or.inl hc.1.2)
    exact h.2.2.1 a t n _ v hn h1 h2 (Or.inr ⟨hc.2, Nat.lt_of_not_le fun q => hi (Or.inr q)⟩) e
  · cases e
theorem zR.ln (h : zR rows lm u z V S) {a t : Nat} {v : Int32} (hn : zn rows a) (e : zln V a t = some v) : zln S a t = some v := by
  unfold zln at e ⊢
  cases hv : V.1 a with
  | none => rw [hv] at e; cases e
  | some q =>
    rw [hv] at e
    rw [h.k (c := q.1) (n := q.2) hv hn]
    exact e
theorem zR.rc (h : zR rows lm u z V S) {a c : Nat} {w : Unit} (e : zrc V a c = some w) (hc : c ≠ 9 := by decide) : zrc S a c = some w := by
  unfold zrc at e ⊢
  split at e
  · next hk =>
    obtain ⟨n, hn⟩ := zkd hk
    by_cases h5 : c = 5
    · subst h5
      obtain ⟨n', s, b, hr⟩ := h.1 a (h.r5 hn)
      rw [if_pos (by rw [hr.2.2.2.1]; rfl)]
    · rw [if_pos (by rw [(h.at hn h5 (Or.inl hc)).1]; rfl)]
  · cases e
theorem zU_cong {rv rv' : Nat → Nat → Option Nat} (h : ∀ a ∈ rows, rv' a 1 = rv a 1) : zU rv' rows = zU rv rows := by
  unfold zU
  exact List.countP_congr fun a ha => by rw [h a ha]
/-! writing -/
/-- a cell that is no row and no row's array -/
theorem zR.upd (h : zR rows lm u z V S) {a c n : Nat} (hk : V.1 a = some (c, n)) (h5 : c ≠ 5) (h9 : c ≠ 9 ∨ zn rows a) (hV1 : V'.1 = V.1) (hS1 : S'.1 = S.1) (hVo : ∀ b, b ≠ a → V'.2.1 b = V.2.1 b ∧ V'.2.2.1 b = V.2.2.1 b ∧ V'.2.2.2 b = V.2.2.2 b) (hSo : ∀ b, b ≠ a → S'.2.1 b = S.2.1 b ∧ S'.2.2.1 b = S.2.2.1 b ∧ S'.2.2.2 b = S.2.2.2 b) (he : S'.2.1 a = V'.2.1 a ∧ S'.2.2.1 a = V'.2.2.1 a ∧ S'.2.2.2 a = V'.2.2.2 a) (hr : ∀ k v, zrel c n k → V'.2.2.1 a k = some v → zn rows v) : zR rows lm u z V' S' := by
  obtain ⟨o1, o2⟩ := h.oth hk h5 h9
  obtain ⟨q1, q2, q3, q4, q5, q6⟩ := h.at hk h5 h9
  obtain ⟨h1, h2, h3, h4, h6, h7, h8⟩ := id h
  have ne : ∀ a' ∈ rows, a' ≠ a := fun a' ha' e => o1 (e ▸ ha')
  have ne1 : ∀ a' ∈ rows, a' + 1 ≠ a := fun a' ha' e => o2 a' ha' e.symm
  refine ⟨fun a' ha' => ?_, fun a' c' n' hk' g1 g2 => ?_, fun a' c' n' k v hk' g1 g2 gr e => ?_, fun a' ha' a'' ha'' e => ?_, h6, h7, ?_⟩
  · obtain ⟨n', s, b, r1, r2, r3, r4, r5, r6, r7, r8, r9, r10, r11⟩ := h1 a' ha'
    have n1 := ne a' ha'
    refine ⟨n', s, b, r1, r2, by rw [hV1]; exact r3, by rw [hS1]; exact r4, by rw [(hVo a' n1).2.1]; exact r5, by rw [hV1]; exact r6, by rw [(hSo a' n1).1]; exact r7, by rw [(hVo a' n1).1]; exact r8, by rw [(hSo a' n1).1]; exact r9, by rw [(hSo a' n1).2.1]; exact r10, ?_⟩
    rcases r11 with ⟨e1, e2, e3⟩ | ⟨e1, e2, e3, e4⟩
    · exact Or.inl ⟨e1, by rw [hS1]; exact e2, e3⟩
    · refine Or.inr ⟨e1, e2, by rw [hS1]; exact e3, fun j hj => ?_⟩
      have nb : b ≠ a := fun e => by
        subst e
        rw [q1] at e3
        cases e3
        have := q6 rfl
        omega
      rw [(hSo b nb).1, (hVo (a' + 1) (ne1 a' ha')).1]
      exact e4 j hj
  · rw [hV1] at hk'
    by_cases e : a' = a
    · subst e
      cases hk.symm.trans hk'
      exact ⟨by rw [hS1]; exact q1, h5, he.1, he.2.1, he.2.2, q5, q6⟩
    · obtain ⟨p1, p2, p3, p4, p5, p6, p7⟩ := h2 a' c' n' hk' g1 g2
      obtain ⟨v1, v2, v3⟩ := hVo a' e
      obtain ⟨s1, s2, s3⟩ := hSo a' e
      exact ⟨by rw [hS1]; exact p1, p2, by rw [s1, v1]; exact p3, by rw [s2, v2]; exact p4, by rw [s3, v3]; exact p5, p6, p7⟩
  · rw [hV1] at hk'
    by_cases e2 : a' = a
    · subst e2
      cases hk.symm.trans hk'
      exact hr k v gr e
    · rw [(hVo a' e2).2.1] at e
      exact h3 a' c' n' k v hk' g1 g2 gr e
  · rw [(hSo a' (ne a' ha')).2.1, (hSo a'' (ne a'' ha'')).2.1] at e
    exact h4 a' ha' a'' ha'' e
  · rw [zU_cong (rv := S.2.2.1) (fun a' ha' => by rw [(hSo a' (ne a' ha')).2.1])]
    exact h8
/-- a row's size and bytes -/
theorem zR.rupd (h : zR rows lm u z V S) {a b n s s' : Nat} (ha : a ∈ rows) (hro : zRo lm z V S a n s b) (hV1 : V'.1 = V.1) (hS1 : S'.1 = S.1) (hVr : V'.2.2 = V.2.2) (hSr : S'.2.2 = S.2.2) (hVo : ∀ x, x ≠ a → x ≠ a + 1 → V'.2.1 x = V.2.1 x) (hSo : ∀ x, x ≠ a → x ≠ b → S'.2.1 x = S.2.1 x) (hs : s' ≤ n) (hm : S'.2.1 a 0 = nI n) (hv : V'.2.1 a 1 = nI s') (hv2 : S'.2.1 a 2 = nI s') (hb : (b = a + 1 → s' = 0) ∧ (lm ≤ b → ∀ j, j < s' → S'.2.1 b j = V'.2.1 (a + 1) j)) : zR rows lm u z V' S' := by
  obtain ⟨h1, h2, h3, h4, h6, h7, h8⟩ := id h
  obtain ⟨r1, r2, r3, r4, r5, r6, r7, r8, r9, r10, r11⟩ := id hro
  have la := h6 a ha
  refine ⟨fun a' ha' => ?_, fun a' c' n' hk' g1 g2 => ?_, fun a' c' n' k v hk' g1 g2 gr e => ?_, fun a' ha' a'' ha'' e => ?_, h6, h7, ?_⟩
  · by_cases e : a' = a
    · subst e
      refine ⟨n, s', b, r1, hs, by rw [hV1]; exact r3, by rw [hS1]; exact r4, by rw [hVr]; exact r5, by rw [hV1]; exact r6, hm, hv, hv2, by rw [hSr]; exact r10, ?_⟩
      rcases r11 with ⟨e1, e2, e3⟩ | ⟨e1, e2, e3, e4⟩
      · exact Or.inl ⟨e1, by rw [hS1]; exact e2, hb.1 e1⟩
      · exact Or.inr ⟨e1, e2, by rw [hS1]; exact e3, hb.2 e1⟩
    · obtain ⟨n', t, b', p1, p2, p3, p4, p5, p6, p7, p8, p9, p10, p11⟩ := h1 a' ha'
      have la' := h6 a' ha'
      have x1 : a' ≠ a + 1 := fun q => by rw [q, r6] at p3; cases p3
      have x2 : a' + 1 ≠ a := fun q => by rw [q, r3] at p6; cases p6
      have x3 : a' ≠ b := fun q => by
        rcases r11 with ⟨e1, -, -⟩ | ⟨e1, -, -, -⟩
        · omega
        · omega
      have x4 : b' ≠ a := fun q => by
        rcases p11 with ⟨e1, -, -⟩ | ⟨e1, -, -, -⟩
        · omega
        · omega
      have x5 : b' ≠ b := fun q => e (h4 a' ha' a ha (by rw [p10, r10, q]))
      refine ⟨n', t, b', p1, p2, by rw [hV1]; exact p3, by rw [hS1]; exact p4, by rw [hVr]; exact p5, by rw [hV1]; exact p6, by rw [hSo a' e x3]; exact p7, by rw [hVo a' e x1]; exact p8, by rw [hSo a' e x3]; exact p9, by rw [hSr]; exact p10, ?_⟩
      rcases p11 with ⟨e1, e2, e3⟩ | ⟨e1, e2, e3, e4⟩
      · exact Or.inl ⟨e1, by rw [hS1]; exact e2, e3⟩
      · refine Or.inr ⟨e1, e2, by rw [hS1]; exact e3, fun j hj => ?_⟩
        rw [hSo b' x4 x5, hVo (a' + 1) x2 (by omega)]
        exact e4 j hj
  · rw [hV1] at hk'
    obtain ⟨p1, p2, p3, p4, p5, p6, p7⟩ := h2 a' c' n' hk' g1 g2
    have x1 : a' ≠ a := fun q => g1 (q ▸ ha)
    have x2 : a' ≠ a + 1 := g2 a ha
    have x3 : a' ≠ b := fun q => by
      rcases r11 with ⟨e1, -, -⟩ | ⟨e1, e2, e3, -⟩
      · omega
      · rw [q, e3] at p1
        cases p1
        have := p7 rfl
        omega
    exact ⟨by rw [hS1]; exact p1, p2, by rw [hSo a' x1 x3, hVo a' x1 x2]; exact p3, by rw [hSr, hVr]; exact p4, by rw [hSr, hVr]; exact p5, p6, p7⟩
  · rw [hV1] at hk'
    rw [hVr] at e
    exact h3 a' c' n' k v hk' g1 g2 gr e
  · rw [hSr] at e
    exact h4 a' ha' a'' ha'' e
  · rw [hSr]
    exact h8
theorem zu_n {α : Type} {f : Nat → Nat → α} {a k : Nat} {v : α} : ∀ b, b ≠ a → zu f a k v b = f b := fun _ h => zu_ne h
theorem zR.pi (h : zR rows lm u z V S) {a c k : Nat} {v : Int32} (hc : c ≠ 5 ∧ c ≠ 9) (e : zpi V a c k v = some V') : ∃ S', zpi S a c k v = some S' ∧ zR rows lm u z V' S' := by
  unfold zpi at e
  split at e
  · next hk =>
    cases e
    obtain ⟨n, hn⟩ := zkd hk
    obtain ⟨q1, q2, q3, q4, -⟩ := h.at hn hc.1 (Or.inl hc.2)
    obtain ⟨o1, o2⟩ := h.oth hn hc.1 (Or.inl hc.2)
    refine ⟨(S.1, zu S.2.1 a k v, S.2.2.1, S.2.2.2), ?_, h.upd hn hc.1 (Or.inl hc.2) rfl rfl (fun b hb => ⟨zu_ne hb, rfl, rfl⟩) (fun b hb => ⟨zu_ne hb, rfl, rfl⟩) ⟨?_, q3, q4⟩ (fun k v g e => h.2.2.1 a c n k v hn o1 o2 g e)⟩
    · unfold zpi
      rw [if_pos (by rw [q1]; rfl)]
    · funext j
      show zu S.2.1 a k v a j = zu V.2.1 a k v a j
      rw [zu_eq, zu_eq, q2]
  · cases e
theorem zR.pr (h : zR rows lm u z V S) {a c k v : Nat} (hc : c ≠ 5 ∧ c ≠ 9) (hv : zn rows v) (e : zpr V a c k v = some V') : ∃ S', zpr S a c k v = some S' ∧ zR rows lm u z V' S' := by
  unfold zpr at e
  split at e
  · next hk =>
    cases e
    obtain ⟨n, hn⟩ := zkd hk
    obtain ⟨q1, q2, q3, q4, -⟩ := h.at hn hc.1 (Or.inl hc.2)
    obtain ⟨o1, o2⟩ := h.oth hn hc.1 (Or.inl hc.2)
    refine ⟨(S.1, S.2.1, zu S.2.2.1 a k (some v), S.2.2.2), ?_, h.upd hn hc.1 (Or.inl hc.2) rfl rfl (fun b hb => ⟨rfl, zu_ne hb, rfl⟩) (fun b hb => ⟨rfl, zu_ne hb, rfl⟩) ⟨q2, ?_, q4⟩ (fun k' v' g e => ?_)⟩
    · unfold zpr
      rw [if_pos (by rw [q1]; rfl)]
    · funext j
      show zu S.2.2.1 a k (some v) a j = zu V.2.2.1 a k (some v) a j
      rw [zu_eq, zu_eq, q3]
    · have e' : zu V.2.2.1 a k (some v) a k' = some v' := e
      rw [zu_eq] at e'
      split at e'
      · cases e'
        exact hv
      · exact h.2.2.1 a c n k' v' hn o1 o2 g e'
  · cases e
theorem zR.is (h : zR rows lm u z V S) {a : Nat} {i v : Int32} (hn : zn rows a) (e : zis V a i v = some V') : ∃ S', zis S a i v = some S' ∧ zR rows lm u z V' S' := by
  obtain ⟨hk, rfl⟩ := zis_ok e
  obtain ⟨n, hn9, -⟩ := zok_at hk
  obtain ⟨q1, q2, q3, q4, -⟩ := h.at hn9 (by decide) (Or.inr hn)
  obtain ⟨o1, o2⟩ := h.oth hn9 (by decide) (Or.inr hn)
  refine ⟨(S.1, zu S.2.1 a i.toNatClampNeg v, S.2.2.1, S.2.2.2), ?_, h.upd hn9 (by decide) (Or.inr hn) rfl rfl (fun b hb => ⟨zu_ne hb, rfl, rfl⟩) (fun b hb => ⟨zu_ne hb, rfl, rfl⟩) ⟨?_, q3, q4⟩ (fun k v g e => h.2.2.1 a 9 n k v hn9 o1 o2 g e)⟩
  · unfold zis
    rw [if_pos (zok_tr (by rw [q1, hn9]) hk)]
  · funext j
    show zu S.2.1 a _ v a j = zu V.2.1 a _ v a j
    rw [zu_eq, zu_eq, q2]
theorem zR.zs (h : zR rows lm u z V S) {a : Nat} {i v : Int32} (e : zzs V a i v = some V') : ∃ S', zzs S a i v = some S' ∧ zR rows lm u z V' S' := by
  unfold zzs at e
  split at e
  · next hk =>
    cases e
    obtain ⟨n, hn, -⟩ := zok_at hk
    obtain ⟨q1, q2, q3, q4, -⟩ := h.at hn (by decide) (Or.inl (by decide))
    obtain ⟨o1, o2⟩ := h.oth hn (by decide) (Or.inl (by decide))
    refine ⟨(S.1, zu S.2.1 a i.toNatClampNeg (v &&& 1), S.2.2.1, S.2.2.2), ?_, h.upd hn (by decide) (Or.inl (by decide)) rfl rfl (fun b hb => ⟨zu_ne hb, rfl, rfl⟩) (fun b hb => ⟨zu_ne hb, rfl, rfl⟩) ⟨?_, q3, q4⟩ (fun k v g e => h.2.2.1 a 11 n k v hn o1 o2 g e)⟩
    · unfold zzs
      rw [if_pos (zok_tr (by rw [q1, hn]) hk)]
    · funext j
      show zu S.2.1 a _ (v &&& 1) a j = zu V.2.1 a _ (v &&& 1) a j
      rw [zu_eq, zu_eq, q2]
  · cases e
theorem zR.ls (h : zR rows lm u z V S) {a : Nat} {i : Int32} {v : Int64} (e : zls V a i v = some V') : ∃ S', zls S a i v = some S' ∧ zR rows lm u z V' S' := by
  unfold zls at e
  split at e
  · next hk =>
    cases e
    obtain ⟨n, hn, -⟩ := zok_at hk
    obtain ⟨q1, q2, q3, q4, -⟩ := h.at hn (by decide) (Or.inl (by decide))
    obtain ⟨o1, o2⟩ := h.oth hn (by decide) (Or.inl (by decide))
    refine ⟨(S.1, S.2.1, S.2.2.1, zu S.2.2.2 a i.toNatClampNeg v), ?_, h.upd hn (by decide) (Or.inl (by decide)) rfl rfl (fun b hb => ⟨rfl, rfl, zu_ne hb⟩) (fun b hb => ⟨rfl, rfl, zu_ne hb⟩) ⟨q2, q3, ?_⟩ (fun k v g e => h.2.2.1 a 10 n k v hn o1 o2 g e)⟩
    · unfold zls
      rw [if_pos (zok_tr (by rw [q1, hn]) hk)]
    · funext j
      show zu S.2.2.2 a _ v a j = zu V.2.2.2 a _ v a j
      rw [zu_eq, zu_eq, q4]
  · cases e
theorem zR.cp (h : zR rows lm u z V S) {a0 a1 : Nat} {sp dp n : Int32} (n0 : zn rows a0) (n1 : zn rows a1) (e : zcp V a0 sp a1 dp n = some V') : ∃ S', zcp S a0 sp a1 dp n = some S' ∧ zR rows lm u z V' S' := by
  unfold zcp at e
  cases hv0 : V.1 a0 with
  | none => rw [hv0] at e; cases e
  | some p0 =>
    cases hv1 : V.1 a1 with
    | none => rw [hv0, hv1] at e; cases e
    | some p1 =>
      obtain ⟨c0, m0⟩ := p0
      obtain ⟨c1, m1⟩ := p1
      rw [hv0, hv1] at e
      dsimp only at e
      split at e
      · next g =>
        cases e
        obtain ⟨g1, g2, g3⟩ := id g
        subst g1
        subst g2
        obtain ⟨q1, q2, q3, q4, -⟩ := h.at hv0 (by decide) (Or.inr n0)
        obtain ⟨p1, p2, p3, p4, -⟩ := h.at hv1 (by decide) (Or.inr n1)
        obtain ⟨o1, o2⟩ := h.oth hv1 (by decide) (Or.inr n1)
        refine ⟨(S.1, zro S.2.1 a1 (va_cpy (S.2.1 a0) (S.2.1 a1) sp.toNatClampNeg dp.toNatClampNeg n.toNatClampNeg), S.2.2.1, S.2.2.2), ?_, h.upd hv1 (by decide) (Or.inr n1) rfl rfl (fun b hb => ⟨zro_ne hb, rfl, rfl⟩) (fun b hb => ⟨zro_ne hb, rfl, rfl⟩) ⟨?_, p3, p4⟩ (fun k v g e => h.2.2.1 a1 9 m1 k v hv1 o1 o2 g e)⟩
        · unfold zcp
          rw [q1, p1]
          dsimp only
          rw [if_pos g]
        · show zro S.2.1 a1 _ a1 = zro V.2.1 a1 _ a1
          rw [zro_eq, zro_eq, q2, p2]
      · cases e
theorem zR.pz (h : zR rows lm u z V S) {a : Nat} {v : Int32} (e : zpz V a v = some V') : ∃ S', zpi S a 5 2 v = some S' ∧ zR rows lm u z V' S' := by
  unfold zpz at e
  split at e
  · next hg =>
    unfold zpi at e
    split at e
    · next hk =>
      cases e
      obtain ⟨m, hm⟩ := zkd hk
      have ha := h.r5 hm
      obtain ⟨n, s, b, hr⟩ := h.1 a ha
      obtain ⟨r1, r2, r3, r4, r5, r6, r7, r8, r9, r10, r11⟩ := id hr
      obtain ⟨s', hs', rfl⟩ : ∃ s', s' ≤ s ∧ v = nI s' := by
        rcases hg with rfl | ⟨g1, g2⟩
        · exact ⟨0, by omega, rfl⟩
        · rw [r8] at g2
          by_cases e : v = nI s
          · exact ⟨s, by omega, e⟩
          · have : v < nI s := by
              rcases Int32.lt_or_eq_of_le g2 with q | q
              · exact q
              · exact absurd q e
            obtain ⟨k, hk1, hk2⟩ := nI_in2 g1 this (by omega)
            exact ⟨k, by omega, hk2⟩
      have la := h.2.2.2.2.1 a ha
      have hba : b ≠ a := fun q => by
        rcases r11 with ⟨e1, -, -⟩ | ⟨e1, -, -, -⟩
        · omega
        · omega
      refine ⟨(S.1, zu S.2.1 a 2 (nI s'), S.2.2.1, S.2.2.2), ?_, h.rupd (s' := s') ha hr rfl rfl rfl rfl (fun x hx _ => zu_ne hx) (fun x hx _ => zu_ne hx) (by omega) ?_ zu_s zu_s ⟨fun e1 => ?_, fun e1 j hj => ?_⟩⟩
      · unfold zpi
        rw [if_pos (by rw [r4]; rfl)]
      · show zu S.2.1 a 2 (nI s') a 0 = _
        rw [zu_o (by omega)]
        exact r7
      · rcases r11 with ⟨-, -, e3⟩ | ⟨q1, -, -, -⟩
        · omega
        · omega
      · show zu S.2.1 a 2 (nI s') b j = zu V.2.1 a 1 (nI s') (a + 1) j
        rw [zu_o (fun q => hba q.1), zu_o (by omega)]
        rcases r11 with ⟨q1, -, -⟩ | ⟨-, -, -, q4⟩
        · omega
        · exact q4 j (by omega)
    · cases e
  · cases e
theorem zR.ibs (h : zR rows lm u z V S) {a w b : Nat} {i v : Int32} (p : zPt rows S a w b) (e : zibs V w i v = some V') : ∃ S', zis S b i v = some S' ∧ zR rows lm u z V' S' := by
  unfold zibs at e
  split at e
  · next hi =>
    obtain ⟨hk, rfl⟩ := zis_ok e
    obtain ⟨n, s, hr, q1, q2, q3, q4, q5, q6⟩ := h.low p hi hk
    obtain ⟨r1, r2, r3, r4, r5, r6, r7, r8, r9, r10, r11⟩ := id hr
    obtain ⟨pa, rfl, p3⟩ := p
    have la := h.2.2.2.2.1 a pa
    refine ⟨(S.1, zu S.2.1 b i.toNatClampNeg v, S.2.2.1, S.2.2.2), ?_, h.rupd (s' := s) pa hr rfl rfl rfl rfl (fun x _ hx => zu_ne hx) (fun x _ hx => zu_ne hx) r2 ?_ ?_ ?_ ⟨fun e1 => by omega, fun e1 j hj => ?_⟩⟩
    · unfold zis
      rw [if_pos q6]
    · show zu S.2.1 b _ v a 0 = _
      rw [zu_o (by omega)]
      exact r7
    · show zu V.2.1 (a + 1) _ v a 1 = _
      rw [zu_o (by omega)]
      exact r8
    · show zu S.2.1 b _ v a 2 = _
      rw [zu_o (by omega)]
      exact r9
    · show zu S.2.1 b _ v b j = zu V.2.1 (a + 1) _ v (a + 1) j
      rw [zu_eq, zu_eq]
      split
      · rfl
      · exact q4 j hj
  · cases e
/-! new cells -/
theorem zR.nz (h : zR rows lm u z V S) : zn rows z := fun a ha e => by
  have := h.2.2.2.2.1 a ha
  have := h.2.2.2.2.2.1
  omega
theorem zR.ad (h : zR rows lm u z V S) {k : Nat} : zR rows lm (u + 1) (z + 1) (zad V z 10 k) (zad S z 10 k) := by
  obtain ⟨h1, h2, h3, h4, h6, h7, h8⟩ := id h
  have kV : ∀ x, x ≠ z → (zad V z 10 k).1 x = V.1 x := fun x hx => if_neg hx
  have kS : ∀ x, x ≠ z → (zad S z 10 k).1 x = S.1 x := fun x hx => if_neg hx
  have iV : ∀ x, x ≠ z → (zad V z 10 k).2.1 x = V.2.1 x := fun x hx => zro_ne hx
  have iS : ∀ x, x ≠ z → (zad S z 10 k).2.1 x = S.2.1 x := fun x hx => zro_ne hx
  have rV : ∀ x, x ≠ z → (zad V z 10 k).2.2.1 x = V.2.2.1 x := fun x hx => zro_ne hx
  have rS : ∀ x, x ≠ z → (zad S z 10 k).2.2.1 x = S.2.2.1 x := fun x hx => zro_ne hx
  have lV : ∀ x, x ≠ z → (zad V z 10 k).2.2.2 x = V.2.2.2 x := fun x hx => zro_ne hx
  have lS : ∀ x, x ≠ z → (zad S z 10 k).2.2.2 x = S.2.2.2 x := fun x hx => zro_ne hx
  refine ⟨fun a ha => ?_, fun a c n hk g1 g2 => ?_, fun a c n k' v hk g1 g2 gr e => ?_, fun a ha a' ha' e => ?_, h6, by omega, ?_⟩
  · obtain ⟨n, s, b, r1, r2, r3, r4, r5, r6, r7, r8, r9, r10, r11⟩ := h1 a ha
    have la := h6 a ha
    refine ⟨n, s, b, r1, r2, by rw [kV a (by omega)]; exact r3, by rw [kS a (by omega)]; exact r4, by rw [rV a (by omega)]; exact r5, by rw [kV (a + 1) (by omega)]; exact r6, by rw [iS a (by omega)]; exact r7, by rw [iV a (by omega)]; exact r8, by rw [iS a (by omega)]; exact r9, by rw [rS a (by omega)]; exact r10, ?_⟩
    rcases r11 with ⟨e1, e2, e3⟩ | ⟨e1, e2, e3, e4⟩
    · exact Or.inl ⟨e1, by rw [kS (a + 1) (by omega)]; exact e2, e3⟩
    · exact Or.inr ⟨e1, by omega, by rw [kS b (by omega)]; exact e3, fun j hj => by rw [iS b (by omega), iV (a + 1) (by omega)]; exact e4 j hj⟩
  · by_cases e : a = z
    · subst e
      have hk' : some (10, k) = some (c, n) := (if_pos rfl).symm.trans hk
      cases hk'
      refine ⟨if_pos rfl, by decide, ?_, ?_, ?_, by omega, fun q => by cases q⟩
      · exact (zro_eq (f := S.2.1)).trans (zro_eq (f := V.2.1)).symm
      · exact (zro_eq (f := S.2.2.1)).trans (zro_eq (f := V.2.2.1)).symm
      · exact (zro_eq (f := S.2.2.2)).trans (zro_eq (f := V.2.2.2)).symm
    · rw [kV a e] at hk
      obtain ⟨p1, p2, p3, p4, p5, p6, p7⟩ := h2 a c n hk g1 g2
      exact ⟨by rw [kS a e]; exact p1, p2, by rw [iS a e, iV a e]; exact p3, by rw [rS a e, rV a e]; exact p4, by rw [lS a e, lV a e]; exact p5, by omega, p7⟩
  · by_cases e2 : a = z
    · subst e2
      have : (zad V a 10 k).2.2.1 a k' = none := congrFun (zro_eq (f := V.2.2.1) (a := a) (g := fun _ => none)) k'
      rw [this] at e
      cases e
    · rw [kV a e2] at hk
      rw [rV a e2] at e
      exact h3 a c n k' v hk g1 g2 gr e
  · have la := h6 a ha
    have la' := h6 a' ha'
    rw [rS a (by omega), rS a' (by omega)] at e
    exact h4 a ha a' ha' e
  · rw [zU_cong (rv := S.2.2.1) (fun a ha => by have := h6 a ha; rw [rS a (by omega)])]
    omega
theorem countP_dec {α : Type} {p q : α → Bool} {a : α} : ∀ {l : List α}, a ∈ l → (∀ x ∈ l, q x = true → p x = true) → p a = true → q a = false → l.countP q + 1 ≤ l.countP p
  | [], h, _, _, _ => by cases h
  | x :: l, h, hi, h1, h2 => by
    have hi' : ∀ y ∈ l, q y = true → p y = true := fun y hy => hi y (List.mem_cons_of_mem _ hy)
    have hx := hi x List.mem_cons_self
    by_cases e : a ∈ l
    · have := countP_dec e hi' h1 h2
      rw [List.countP_cons, List.countP_cons]
      cases hq : q x with
      | false => cases p x <;> simp <;> omega
      | true => rw [hx hq]; simp; omega
    · have : x = a := by
        rcases List.mem_cons.mp h with q | q
        · exact q.symm
        · exact absurd q e
      subst this
      have hm : l.countP q ≤ l.countP p := List.countP_mono_left hi'
      rw [List.countP_cons, List.countP_cons, h1, h2]
      simp
      omega
/-- a row gets its array -/
theorem zR.mk (h : zR rows lm u z V S) {a n s : Nat} (ha : a ∈ rows) (hro : zRo lm z V S a n s (a + 1)) : zR rows lm u (z + 1) V ((zad S z 9 n).1, (zad S z 9 n).2.1, zu (zad S z 9 n).2.2.1 a 1 (some z), (zad S z 9 n).2.2.2) ∧ zRo lm (z + 1) V ((zad S z 9 n).1, (zad S z 9 n).2.1, zu (zad S z 9 n).2.2.1 a 1 (some z), (zad S z 9 n).2.2.2) a n s z := by
  obtain ⟨h1, h2, h3, h4, h6, h7, h8⟩ := id h
  obtain ⟨r1, r2, r3, r4, r5, r6, r7, r8, r9, r10, r11⟩ := id hro
  have la := h6 a ha
  have hs0 : s = 0 := by
    rcases r11 with ⟨-, -, q⟩ | ⟨q, -, -, -⟩
    · exact q
    · omega
  have kS : ∀ x, x ≠ z → (zad S z 9 n).1 x = S.1 x := fun x hx => if_neg hx
  have iS : ∀ x, x ≠ z → (zad S z 9 n).2.1 x = S.2.1 x := fun x hx => zro_ne hx
  have rS : ∀ x, x ≠ z → (zad S z 9 n).2.2.1 x = S.2.2.1 x := fun x hx => zro_ne hx
  have lS : ∀ x, x ≠ z → (zad S z 9 n).2.2.2 x = S.2.2.2 x := fun x hx => zro_ne hx
  have rO : ∀ x, x ≠ z → x ≠ a → zu (zad S z 9 n).2.2.1 a 1 (some z) x = S.2.2.1 x := fun x hx hx2 => by rw [zu_ne hx2, rS x hx]
  have hnew : zRo lm (z + 1) V ((zad S z 9 n).1, (zad S z 9 n).2.1, zu (zad S z 9 n).2.2.1 a 1 (some z), (zad S z 9 n).2.2.2) a n s z := by
    refine ⟨r1, r2, r3, by rw [kS a (by omega)]; exact r4, r5, r6, by rw [iS a (by omega)]; exact r7, r8, by rw [iS a (by omega)]; exact r9, zu_s, Or.inr ⟨h7, by omega, if_pos rfl, fun j hj => by omega⟩⟩
  refine ⟨⟨fun a' ha' => ?_, fun a' c n' hk g1 g2 => ?_, h3, fun a' ha' a'' ha'' e => ?_, h6, by omega, ?_⟩, hnew⟩
  · by_cases e : a' = a
    · subst e
      exact ⟨n, s, z, hnew⟩
    · obtain ⟨n', t, b', p1, p2, p3, p4, p5, p6, p7, p8, p9, p10, p11⟩ := h1 a' ha'
      have la' := h6 a' ha'
      refine ⟨n', t, b', p1, p2, p3, by rw [kS a' (by omega)]; exact p4, p5, p6, by rw [iS a' (by omega)]; exact p7, p8, by rw [iS a' (by omega)]; exact p9, (congrFun (rO a' (by omega) e) 1).trans p10, ?_⟩
      rcases p11 with ⟨e1, e2, e3⟩ | ⟨e1, e2, e3, e4⟩
      · exact Or.inl ⟨e1, by rw [kS (a' + 1) (by omega)]; exact e2, e3⟩
      · exact Or.inr ⟨e1, by omega, by rw [kS b' (by omega)]; exact e3, fun j hj => by rw [iS b' (by omega)]; exact e4 j hj⟩
  · obtain ⟨p1, p2, p3, p4, p5, p6, p7⟩ := h2 a' c n' hk g1 g2
    have x1 : a' ≠ a := fun q => g1 (q ▸ ha)
    exact ⟨by rw [kS a' (by omega)]; exact p1, p2, by rw [iS a' (by omega)]; exact p3, (rO a' (by omega) x1).trans p4, by rw [lS a' (by omega)]; exact p5, by omega, p7⟩
  · have old : ∀ x ∈ rows, x ≠ a → zu (zad S z 9 n).2.2.1 a 1 (some z) x 1 ≠ some z := fun x hx hxa q => by
      obtain ⟨n', t, b', p1, p2, p3, p4, p5, p6, p7, p8, p9, p10, p11⟩ := h1 x hx
      have lx := h6 x hx
      rw [rO x (by omega) hxa, p10] at q
      have q := Option.some.inj q
      rcases p11 with ⟨e1, -, -⟩ | ⟨-, e2, -, -⟩
      · omega
      · omega
    by_cases e1 : a' = a
    · by_cases e2 : a'' = a
      · rw [e1, e2]
      · subst e1
        exact absurd (e.symm.trans zu_s) (old a'' ha'' e2)
    · by_cases e2 : a'' = a
      · subst e2
        exact absurd (e.trans zu_s) (old a' ha' e1)
      · have l1 := h6 a' ha'
        have l2 := h6 a'' ha''
        have e : zu (zad S z 9 n).2.2.1 a 1 (some z) a' 1 = zu (zad S z 9 n).2.2.1 a 1 (some z) a'' 1 := e
        rw [rO a' (by omega) e1, rO a'' (by omega) e2] at e
        exact h4 a' ha' a'' ha'' e
  · have : zU (zu (zad S z 9 n).2.2.1 a 1 (some z)) rows + 1 ≤ zU S.2.2.1 rows := by
      unfold zU
      refine countP_dec ha (fun x hx q => ?_) (decide_eq_true r10) (decide_eq_false fun q => ?_)
      · have q := of_decide_eq_true q
        have lx := h6 x hx
        by_cases e : x = a
        · rw [e]
          exact decide_eq_true r10
        · rw [rO x (by omega) e] at q
          exact decide_eq_true q
      · rw [zu_s] at q
        have := Option.some.inj q
        omega
    show z + 1 + zU (zu (zad S z 9 n).2.2.1 a 1 (some z)) rows ≤ u
    omega
end REL
