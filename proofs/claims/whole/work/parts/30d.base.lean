/-! LEVEL 2: the pure functions; base -/
def zw {α : Type} (o : Option α) (P : α → Prop) : Prop := ∃ x, o = some x ∧ P x
theorem zw.s {α : Type} {x : α} {P : α → Prop} (h : P x) : zw (some x) P := ⟨x, rfl, h⟩
theorem zw.imp {α : Type} {o : Option α} {P Q : α → Prop} (h : zw o P) (hi : ∀ x, P x → Q x) : zw o Q := by
  obtain ⟨x, h1, h2⟩ := h
  exact ⟨x, h1, hi x h2⟩
/-- a step whose answer is known -/
theorem zw.e {α β : Type} {o : Option α} {F : α → Option β} {P : β → Prop} {v : α} (h : o = some v) (k : zw (F v) P) : zw (o.bind F) P := by
  rw [h]
  exact k
theorem zw.e2 {α β γ : Type} {o : Option (α × β)} {F : α → β → Option γ} {P : γ → Prop} {v : α} {u : β} (h : o = some (v, u)) (k : zw (F v u) P) : zw (zb2 o F) P := by
  rw [h]
  exact k
/-- a step of which something is known -/
theorem zw.c {α β : Type} {o : Option α} {F : α → Option β} {P : β → Prop} {Q : α → Prop} (h : zw o Q) (k : ∀ v, Q v → zw (F v) P) : zw (o.bind F) P := by
  obtain ⟨x, h1, h2⟩ := h
  rw [h1]
  exact k x h2
theorem zw.c2 {α β γ : Type} {o : Option (α × β)} {F : α → β → Option γ} {P : γ → Prop} {Q : α × β → Prop} (h : zw o Q) (k : ∀ v u, Q (v, u) → zw (F v u) P) : zw (zb2 o F) P := by
  obtain ⟨⟨x, y⟩, h1, h2⟩ := h
  rw [h1]
  exact k x y h2
theorem zw.it {α : Type} {c : Prop} [Decidable c] {a b : Option α} {P : α → Prop} (h1 : c → zw a P) (h2 : ¬ c → zw b P) : zw (if c then a else b) P := by
  by_cases h : c
  · rw [if_pos h]
    exact h1 h
  · rw [if_neg h]
    exact h2 h
theorem zw.t {α : Type} {c : Prop} [Decidable c] {a b : Option α} {P : α → Prop} (h : c) (k : zw a P) : zw (if c then a else b) P := by
  rw [if_pos h]
  exact k
theorem zw.f {α : Type} {c : Prop} [Decidable c] {a b : Option α} {P : α → Prop} (h : ¬ c) (k : zw b P) : zw (if c then a else b) P := by
  rw [if_neg h]
  exact k
/-- a loop, by a measure that falls -/
theorem zw.loop {α β : Type} {B : (α → Option β) → α → Option β} {P : β → Prop} (I : Nat → α → Prop) (hs : ∀ (n : Nat) (x : α) (K : α → Option β), I n x → (∀ (k : Nat) (y : α), k < n → I k y → zw (K y) P) → zw (B K x) P) : ∀ (N n : Nat) (x : α), n < N → I n x → zw (zloop B N x) P := by
  intro N
  induction N with
  | zero => intro n x h; omega
  | succ N ih => intro n x h hI; exact hs n x (zloop B N) hI (fun k y hk hy => ih k y (by omega) hy)
/-! numbers -/
theorem nI_mul (a b : Nat) : nI a * nI b = nI (a * b) := (Int32.ofNat_mul a b).symm
theorem nI_sub {a b : Nat} (h : b ≤ a) : nI a - nI b = nI (a - b) := by
  have e : nI a = nI (a - b) + nI b := by rw [nI_add]; congr 1; omega
  rw [e]
  simp
/-- an int within 0 .. n - 1 -/
theorem nI_in2 {x : Int32} {n : Nat} (h0 : ¬ x < 0) (h1 : x < nI n) (hn : n < 2 ^ 31) : ∃ k, k < n ∧ x = nI k := by
  have h0 := Int32.not_lt.mp h0
  rw [Int32.le_iff_toInt_le] at h0
  rw [Int32.lt_iff_toInt_lt, nI_toInt hn] at h1
  have e0 : (0 : Int32).toInt = 0 := rfl
  rw [e0] at h0
  refine ⟨x.toInt.toNat, by omega, ?_⟩
  apply Int32.toInt_inj.mp
  rw [nI_toInt (by omega)]
  omega
/-! reading and writing a store whose kinds are known -/
section ZA
variable {K : Nat → Option (Nat × Nat)} {iv : Nat → Nat → Int32} {rv : Nat → Nat → Option Nat} {lv : Nat → Nat → Int64} {a c n k v : Nat} {x : Int32}
theorem zgr_at (hk : K a = some (c, n)) (hr : rv a k = some v) : zgr (K, iv, rv, lv) a c k = some v := by simp [zgr, hk, hr]
theorem zgi_at (hk : K a = some (c, n)) : zgi (K, iv, rv, lv) a c k = some (iv a k) := by simp [zgi, hk]
theorem zpi_at (hk : K a = some (c, n)) : zpi (K, iv, rv, lv) a c k x = some (K, zu iv a k x, rv, lv) := by simp [zpi, hk]
theorem zpr_at (hk : K a = some (c, n)) : zpr (K, iv, rv, lv) a c k v = some (K, iv, zu rv a k (some v), lv) := by simp [zpr, hk]
theorem zrc_at (hk : K a = some (c, n)) : zrc (K, iv, rv, lv) a c = some () := by simp [zrc, hk]
theorem zok_of {t i : Nat} (hk : K a = some (t, n)) (hi : i < n) (hn : n < 2 ^ 31) : zok (K, iv, rv, lv) a t (nI i) = true := by
  simp [zok, hk, nI_pos (show i < 2 ^ 31 by omega), nI_clamp (show i < 2 ^ 31 by omega), hi]
theorem zil_at {i : Nat} (hk : K a = some (9, n)) (hi : i < n) (hn : n < 2 ^ 31) : zil (K, iv, rv, lv) a (nI i) = some (iv a i) := by
  simp [zil, zok_of hk hi hn, nI_clamp (show i < 2 ^ 31 by omega)]
theorem zis_at {i : Nat} (hk : K a = some (9, n)) (hi : i < n) (hn : n < 2 ^ 31) : zis (K, iv, rv, lv) a (nI i) x = some (K, zu iv a i x, rv, lv) := by
  simp [zis, zok_of hk hi hn, nI_clamp (show i < 2 ^ 31 by omega)]
theorem zzl_at {i : Nat} (hk : K a = some (11, n)) (hi : i < n) (hn : n < 2 ^ 31) : zzl (K, iv, rv, lv) a (nI i) = some (iv a i) := by
  simp [zzl, zok_of hk hi hn, nI_clamp (show i < 2 ^ 31 by omega)]
theorem zzs_at {i : Nat} (hk : K a = some (11, n)) (hi : i < n) (hn : n < 2 ^ 31) : zzs (K, iv, rv, lv) a (nI i) x = some (K, zu iv a i (x &&& 1), rv, lv) := by
  simp [zzs, zok_of hk hi hn, nI_clamp (show i < 2 ^ 31 by omega)]
theorem zll_at {i : Nat} (hk : K a = some (10, n)) (hi : i < n) (hn : n < 2 ^ 31) : zll (K, iv, rv, lv) a (nI i) = some (lv a i) := by
  simp [zll, zok_of hk hi hn, nI_clamp (show i < 2 ^ 31 by omega)]
theorem zls_at {i : Nat} {y : Int64} (hk : K a = some (10, n)) (hi : i < n) (hn : n < 2 ^ 31) : zls (K, iv, rv, lv) a (nI i) y = some (K, iv, rv, zu lv a i y) := by
  simp [zls, zok_of hk hi hn, nI_clamp (show i < 2 ^ 31 by omega)]
theorem zal_at {t i : Nat} (hk : K a = some (t, n)) (hi : i < n) (hn : n < 2 ^ 31) (hr : rv a i = some v) : zal (K, iv, rv, lv) a t (nI i) = some v := by
  simp [zal, zok_of hk hi hn, nI_clamp (show i < 2 ^ 31 by omega), hr]
theorem zln_at {t : Nat} (hk : K a = some (t, n)) : zln (K, iv, rv, lv) a t = some (nI n) := by
  simp [zln, hk]
  rfl
end ZA
section ZV
variable {K : Nat → Option (Nat × Nat)} {iv : Nat → Nat → Int32} {rv : Nat → Nat → Option Nat} {lv : Nat → Nat → Int64} {a c n k v : Nat} {x y : Int32}
theorem zgi_v (hk : K a = some (c, n)) (hv : iv a k = x) : zgi (K, iv, rv, lv) a c k = some x := by rw [zgi_at hk, hv]
theorem zil_v {i : Int32} {j : Nat} (hk : K a = some (9, n)) (hi : i = nI j) (hj : j < n) (hn : n < 2 ^ 31) (hv : iv a j = x) : zil (K, iv, rv, lv) a i = some x := by rw [hi, zil_at hk hj hn, hv]
theorem zzl_v {i : Int32} {j : Nat} (hk : K a = some (11, n)) (hi : i = nI j) (hj : j < n) (hn : n < 2 ^ 31) (hv : iv a j = x) : zzl (K, iv, rv, lv) a i = some x := by rw [hi, zzl_at hk hj hn, hv]
theorem zis_v {i : Int32} {j : Nat} (hk : K a = some (9, n)) (hi : i = nI j) (hj : j < n) (hn : n < 2 ^ 31) : zis (K, iv, rv, lv) a i x = some (K, zu iv a j x, rv, lv) := by rw [hi, zis_at hk hj hn]
theorem zzs_v {i : Int32} {j : Nat} (hk : K a = some (11, n)) (hi : i = nI j) (hj : j < n) (hn : n < 2 ^ 31) (hx : x &&& 1 = y) : zzs (K, iv, rv, lv) a i x = some (K, zu iv a j y, rv, lv) := by rw [hi, zzs_at hk hj hn, hx]
end ZV
theorem zu_s {α : Type} {f : Nat → Nat → α} {a k : Nat} {v : α} : zu f a k v a k = v := by simp [zu]
theorem zu_o {α : Type} {f : Nat → Nat → α} {a k b j : Nat} {v : α} (h : ¬ (b = a ∧ j = k)) : zu f a k v b j = f b j := by simp only [zu, if_neg h]
/-- within 0 .. n - 1 -/
abbrev inR (n : Nat) (x : Int32) : Prop := ¬ x < 0 ∧ x < nI n
theorem inR.at {n : Nat} {x : Int32} (h : inR n x) (hn : n < 2 ^ 31) : ∃ k, k < n ∧ x = nI k := nI_in2 h.1 h.2 hn
theorem inR.of {n k : Nat} (hk : k < n) (hn : n < 2 ^ 31) : inR n (nI k) := ⟨nI_pos (by omega), nI_lt hk hn⟩
/-- array a holds the list L from place o on -/
def aH (iv : Nat → Nat → Int32) (a o : Nat) (L : List Int32) : Prop := ∀ k, k < L.length → iv a (o + k) = L.getD k 0
theorem aH.nil {iv : Nat → Nat → Int32} {a o : Nat} : aH iv a o [] := fun k hk => absurd hk (Nat.not_lt_zero k)
theorem aH.snoc {iv : Nat → Nat → Int32} {a o : Nat} {L : List Int32} (h : aH iv a o L) (x : Int32) : aH (zu iv a (o + L.length) x) a o (L ++ [x]) := by
  intro k hk
  rw [List.length_append] at hk
  simp only [List.length_cons, List.length_nil] at hk
  by_cases e : k = L.length
  · subst e
    rw [zu_s]
    simp
  · have hk2 : k < L.length := by omega
    rw [zu_o (by omega), h k hk2]
    simp only [List.getD_eq_getElem?_getD, List.getElem?_append_left hk2]
theorem aH.ne {iv : Nat → Nat → Int32} {a a' o i : Nat} {x : Int32} {L : List Int32} (h : aH iv a o L) (hne : a ≠ a') : aH (zu iv a' i x) a o L := fun k hk => by
  rw [zu_o (fun q => hne q.1)]
  exact h k hk
theorem aH.off {iv : Nat → Nat → Int32} {a o i : Nat} {x : Int32} {L : List Int32} (h : aH iv a o L) (hi : i < o ∨ o + L.length ≤ i) : aH (zu iv a i x) a o L := fun k hk => by
  rw [zu_o (by omega)]
  exact h k hk
theorem aH.eq {iv iv' : Nat → Nat → Int32} {a a' o : Nat} {L : List Int32} (h : aH iv a o L) (he : ∀ k, k < L.length → iv' a' (o + k) = iv a (o + k)) : aH iv' a' o L := fun k hk => by
  rw [he k hk]
  exact h k hk
theorem aH.take {iv : Nat → Nat → Int32} {a o : Nat} {L : List Int32} (h : aH iv a o L) (n : Nat) : aH iv a o (L.take n) := fun k hk => by
  rw [List.length_take] at hk
  rw [h k (by omega)]
  simp only [List.getD_eq_getElem?_getD, List.getElem?_take]
  rw [if_pos (by omega)]
theorem take_snoc {L : List Int32} {k : Nat} (h : k < L.length) : L.take (k + 1) = L.take k ++ [L.getD k 0] := by
  rw [List.take_add_one, List.getD_eq_getElem?_getD, List.getElem?_eq_getElem h]
  rfl
