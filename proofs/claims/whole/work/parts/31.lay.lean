/-! the model: one object at b, its arrays at b + 1 .. b + 27 -/
def mL (b : Nat) (K : Nat → Option (Nat × Nat)) (rv : Nat → Nat → Option Nat) : Prop := K b = some (8, 0) ∧ (rv b 1 = some (b + 1) ∧ K (b + 1) = some (9, 60)) ∧ (rv b 4 = some (b + 2) ∧ K (b + 2) = some (9, 20)) ∧ (rv b 5 = some (b + 3) ∧ K (b + 3) = some (9, 1200)) ∧ (rv b 6 = some (b + 4) ∧ K (b + 4) = some (11, 20)) ∧ (rv b 7 = some (b + 5) ∧ K (b + 5) = some (9, 64)) ∧ (rv b 9 = some (b + 6) ∧ K (b + 6) = some (9, 24)) ∧ (rv b 10 = some (b + 7) ∧ K (b + 7) = some (9, 24)) ∧ (rv b 11 = some (b + 8) ∧ K (b + 8) = some (9, 24)) ∧ (rv b 12 = some (b + 9) ∧ K (b + 9) = some (9, 24)) ∧ (rv b 13 = some (b + 10) ∧ K (b + 10) = some (9, 96)) ∧ (rv b 14 = some (b + 11) ∧ K (b + 11) = some (9, 8)) ∧ (rv b 15 = some (b + 12) ∧ K (b + 12) = some (9, 48)) ∧ (rv b 16 = some (b + 13) ∧ K (b + 13) = some (9, 9600)) ∧ (rv b 17 = some (b + 14) ∧ K (b + 14) = some (9, 800)) ∧ (rv b 19 = some (b + 15) ∧ K (b + 15) = some (9, 256)) ∧ (rv b 20 = some (b + 16) ∧ K (b + 16) = some (9, 24)) ∧ (rv b 21 = some (b + 17) ∧ K (b + 17) = some (9, 20)) ∧ (rv b 22 = some (b + 18) ∧ K (b + 18) = some (10, 65536)) ∧ (rv b 23 = some (b + 19) ∧ K (b + 19) = some (9, 40401)) ∧ (rv b 25 = some (b + 20) ∧ K (b + 20) = some (9, 400)) ∧ (rv b 26 = some (b + 21) ∧ K (b + 21) = some (9, 400)) ∧ (rv b 27 = some (b + 22) ∧ K (b + 22) = some (9, 400)) ∧ (rv b 28 = some (b + 23) ∧ K (b + 23) = some (9, 30)) ∧ (rv b 29 = some (b + 24) ∧ K (b + 24) = some (9, 30)) ∧ (rv b 30 = some (b + 25) ∧ K (b + 25) = some (11, 30)) ∧ (rv b 31 = some (b + 26) ∧ K (b + 26) = some (11, 30)) ∧ (rv b 32 = some (b + 27) ∧ K (b + 27) = some (11, 20))
section ZML
variable {b : Nat} {K : Nat → Option (Nat × Nat)} {rv : Nat → Nat → Option Nat}
theorem mL.o (h : mL b K rv) : K b = some (8, 0) := h.1
theorem mL.r_tape (h : mL b K rv) : rv b 1 = some (b + 1) := h.2.1.1
theorem mL.k_tape (h : mL b K rv) : K (b + 1) = some (9, 60) := h.2.1.2
theorem mL.r_textSize (h : mL b K rv) : rv b 4 = some (b + 2) := h.2.2.1.1
theorem mL.k_textSize (h : mL b K rv) : K (b + 2) = some (9, 20) := h.2.2.1.2
theorem mL.r_textBytes (h : mL b K rv) : rv b 5 = some (b + 3) := h.2.2.2.1.1
theorem mL.k_textBytes (h : mL b K rv) : K (b + 3) = some (9, 1200) := h.2.2.2.1.2
theorem mL.r_lacking (h : mL b K rv) : rv b 6 = some (b + 4) := h.2.2.2.2.1.1
theorem mL.k_lacking (h : mL b K rv) : K (b + 4) = some (11, 20) := h.2.2.2.2.1.2
theorem mL.r_words (h : mL b K rv) : rv b 7 = some (b + 5) := h.2.2.2.2.2.1.1
theorem mL.k_words (h : mL b K rv) : K (b + 5) = some (9, 64) := h.2.2.2.2.2.1.2
theorem mL.r_tool (h : mL b K rv) : rv b 9 = some (b + 6) := h.2.2.2.2.2.2.1.1
theorem mL.k_tool (h : mL b K rv) : K (b + 6) = some (9, 24) := h.2.2.2.2.2.2.1.2
theorem mL.r_a (h : mL b K rv) : rv b 10 = some (b + 7) := h.2.2.2.2.2.2.2.1.1
theorem mL.k_a (h : mL b K rv) : K (b + 7) = some (9, 24) := h.2.2.2.2.2.2.2.1.2
theorem mL.r_b (h : mL b K rv) : rv b 11 = some (b + 8) := h.2.2.2.2.2.2.2.2.1.1
theorem mL.k_b (h : mL b K rv) : K (b + 8) = some (9, 24) := h.2.2.2.2.2.2.2.2.1.2
theorem mL.r_inputs (h : mL b K rv) : rv b 12 = some (b + 9) := h.2.2.2.2.2.2.2.2.2.1.1
theorem mL.k_inputs (h : mL b K rv) : K (b + 9) = some (9, 24) := h.2.2.2.2.2.2.2.2.2.1.2
theorem mL.r_input (h : mL b K rv) : rv b 13 = some (b + 10) := h.2.2.2.2.2.2.2.2.2.2.1.1
theorem mL.k_input (h : mL b K rv) : K (b + 10) = some (9, 96) := h.2.2.2.2.2.2.2.2.2.2.1.2
theorem mL.r_hand (h : mL b K rv) : rv b 14 = some (b + 11) := h.2.2.2.2.2.2.2.2.2.2.2.1.1
theorem mL.k_hand (h : mL b K rv) : K (b + 11) = some (9, 8) := h.2.2.2.2.2.2.2.2.2.2.2.1.2
theorem mL.r_size (h : mL b K rv) : rv b 15 = some (b + 12) := h.2.2.2.2.2.2.2.2.2.2.2.2.1.1
theorem mL.k_size (h : mL b K rv) : K (b + 12) = some (9, 48) := h.2.2.2.2.2.2.2.2.2.2.2.2.1.2
theorem mL.r_bytes (h : mL b K rv) : rv b 16 = some (b + 13) := h.2.2.2.2.2.2.2.2.2.2.2.2.2.1.1
theorem mL.k_bytes (h : mL b K rv) : K (b + 13) = some (9, 9600) := h.2.2.2.2.2.2.2.2.2.2.2.2.2.1.2
theorem mL.r_joined (h : mL b K rv) : rv b 17 = some (b + 14) := h.2.2.2.2.2.2.2.2.2.2.2.2.2.2.1.1
theorem mL.k_joined (h : mL b K rv) : K (b + 14) = some (9, 800) := h.2.2.2.2.2.2.2.2.2.2.2.2.2.2.1.2
theorem mL.r_ofByte (h : mL b K rv) : rv b 19 = some (b + 15) := h.2.2.2.2.2.2.2.2.2.2.2.2.2.2.2.1.1
theorem mL.k_ofByte (h : mL b K rv) : K (b + 15) = some (9, 256) := h.2.2.2.2.2.2.2.2.2.2.2.2.2.2.2.1.2
theorem mL.r_place (h : mL b K rv) : rv b 20 = some (b + 16) := h.2.2.2.2.2.2.2.2.2.2.2.2.2.2.2.2.1.1
theorem mL.k_place (h : mL b K rv) : K (b + 16) = some (9, 24) := h.2.2.2.2.2.2.2.2.2.2.2.2.2.2.2.2.1.2
theorem mL.r_needs (h : mL b K rv) : rv b 21 = some (b + 17) := h.2.2.2.2.2.2.2.2.2.2.2.2.2.2.2.2.2.1.1
theorem mL.k_needs (h : mL b K rv) : K (b + 17) = some (9, 20) := h.2.2.2.2.2.2.2.2.2.2.2.2.2.2.2.2.2.1.2
theorem mL.r_ways (h : mL b K rv) : rv b 22 = some (b + 18) := h.2.2.2.2.2.2.2.2.2.2.2.2.2.2.2.2.2.2.1.1
theorem mL.k_ways (h : mL b K rv) : K (b + 18) = some (10, 65536) := h.2.2.2.2.2.2.2.2.2.2.2.2.2.2.2.2.2.2.1.2
theorem mL.r_far (h : mL b K rv) : rv b 23 = some (b + 19) := h.2.2.2.2.2.2.2.2.2.2.2.2.2.2.2.2.2.2.2.1.1
theorem mL.k_far (h : mL b K rv) : K (b + 19) = some (9, 40401) := h.2.2.2.2.2.2.2.2.2.2.2.2.2.2.2.2.2.2.2.1.2
theorem mL.r_changeKind (h : mL b K rv) : rv b 25 = some (b + 20) := h.2.2.2.2.2.2.2.2.2.2.2.2.2.2.2.2.2.2.2.2.1.1
theorem mL.k_changeKind (h : mL b K rv) : K (b + 20) = some (9, 400) := h.2.2.2.2.2.2.2.2.2.2.2.2.2.2.2.2.2.2.2.2.1.2
theorem mL.r_changePlace (h : mL b K rv) : rv b 26 = some (b + 21) := h.2.2.2.2.2.2.2.2.2.2.2.2.2.2.2.2.2.2.2.2.2.1.1
theorem mL.k_changePlace (h : mL b K rv) : K (b + 21) = some (9, 400) := h.2.2.2.2.2.2.2.2.2.2.2.2.2.2.2.2.2.2.2.2.2.1.2
theorem mL.r_changeByte (h : mL b K rv) : rv b 27 = some (b + 22) := h.2.2.2.2.2.2.2.2.2.2.2.2.2.2.2.2.2.2.2.2.2.2.1.1
theorem mL.k_changeByte (h : mL b K rv) : K (b + 22) = some (9, 400) := h.2.2.2.2.2.2.2.2.2.2.2.2.2.2.2.2.2.2.2.2.2.2.1.2
theorem mL.r_by (h : mL b K rv) : rv b 28 = some (b + 23) := h.2.2.2.2.2.2.2.2.2.2.2.2.2.2.2.2.2.2.2.2.2.2.2.1.1
theorem mL.k_by (h : mL b K rv) : K (b + 23) = some (9, 30) := h.2.2.2.2.2.2.2.2.2.2.2.2.2.2.2.2.2.2.2.2.2.2.2.1.2
theorem mL.r_from (h : mL b K rv) : rv b 29 = some (b + 24) := h.2.2.2.2.2.2.2.2.2.2.2.2.2.2.2.2.2.2.2.2.2.2.2.2.1.1
theorem mL.k_from (h : mL b K rv) : K (b + 24) = some (9, 30) := h.2.2.2.2.2.2.2.2.2.2.2.2.2.2.2.2.2.2.2.2.2.2.2.2.1.2
theorem mL.r_forged (h : mL b K rv) : rv b 30 = some (b + 25) := h.2.2.2.2.2.2.2.2.2.2.2.2.2.2.2.2.2.2.2.2.2.2.2.2.2.1.1
theorem mL.k_forged (h : mL b K rv) : K (b + 25) = some (11, 30) := h.2.2.2.2.2.2.2.2.2.2.2.2.2.2.2.2.2.2.2.2.2.2.2.2.2.1.2
theorem mL.r_seen (h : mL b K rv) : rv b 31 = some (b + 26) := h.2.2.2.2.2.2.2.2.2.2.2.2.2.2.2.2.2.2.2.2.2.2.2.2.2.2.1.1
theorem mL.k_seen (h : mL b K rv) : K (b + 26) = some (11, 30) := h.2.2.2.2.2.2.2.2.2.2.2.2.2.2.2.2.2.2.2.2.2.2.2.2.2.2.1.2
theorem mL.r_used (h : mL b K rv) : rv b 32 = some (b + 27) := h.2.2.2.2.2.2.2.2.2.2.2.2.2.2.2.2.2.2.2.2.2.2.2.2.2.2.2.1
theorem mL.k_used (h : mL b K rv) : K (b + 27) = some (11, 20) := h.2.2.2.2.2.2.2.2.2.2.2.2.2.2.2.2.2.2.2.2.2.2.2.2.2.2.2.2
end ZML
/-- what may have changed: whole arrays (by place) and fields of the object -/
def fM (b : Nat) (rs ks : List Nat) (iv iv' : Nat → Nat → Int32) : Prop := ∀ a j : Nat, (∀ r ∈ rs, a ≠ b + r) → (a = b → j ∉ ks) → iv' a j = iv a j
theorem fM.arr {b : Nat} {rs ks : List Nat} {iv iv' : Nat → Nat → Int32} (hf : fM b rs ks iv iv') {r : Nat} (h0 : r ≠ 0) (hr : r ∉ rs) (j : Nat) : iv' (b + r) j = iv (b + r) j :=
  hf (b + r) j (fun q hq e => hr ((show q = r by omega) ▸ hq)) (fun e => by omega)
theorem fM.fld {b : Nat} {rs ks : List Nat} {iv iv' : Nat → Nat → Int32} (hf : fM b rs ks iv iv') (h0 : 0 ∉ rs) {k : Nat} (hk : k ∉ ks) : iv' b k = iv b k :=
  hf b k (fun q hq e => h0 ((show q = 0 by omega) ▸ hq)) (fun _ => hk)
theorem fM.rf {b : Nat} {rs ks : List Nat} {iv : Nat → Nat → Int32} : fM b rs ks iv iv := fun _ _ _ _ => rfl
theorem fM.tr {b : Nat} {rs ks : List Nat} {iv iv1 iv2 : Nat → Nat → Int32} (h1 : fM b rs ks iv iv1) (h2 : fM b rs ks iv1 iv2) : fM b rs ks iv iv2 := fun a j g1 g2 => (h2 a j g1 g2).trans (h1 a j g1 g2)
theorem fM.mo {b : Nat} {rs ks rs' ks' : List Nat} {iv iv' : Nat → Nat → Int32} (h : fM b rs ks iv iv') (h1 : ∀ r ∈ rs, r ∈ rs') (h2 : ∀ k ∈ ks, k ∈ ks') : fM b rs' ks' iv iv' := fun a j g1 g2 => h a j (fun r hr => g1 r (h1 r hr)) (fun e hk => g2 e (h2 j hk))
theorem fM.put {b : Nat} {rs ks : List Nat} {iv iv' : Nat → Nat → Int32} (h : fM b rs ks iv iv') {r : Nat} (hr : r ∈ rs) (i : Nat) (x : Int32) : fM b rs ks iv (zu iv' (b + r) i x) := fun a j g1 g2 => by
  rw [zu_o (fun q => g1 r hr q.1)]
  exact h a j g1 g2
theorem fM.puf {b : Nat} {rs ks : List Nat} {iv iv' : Nat → Nat → Int32} (h : fM b rs ks iv iv') {k : Nat} (hk : k ∈ ks) (x : Int32) : fM b rs ks iv (zu iv' b k x) := fun a j g1 g2 => by
  have hn : ¬ (a = b ∧ j = k) := fun q => g2 q.1 (by rw [q.2]; exact hk)
  rw [zu_o hn]
  exact h a j g1 g2
/-! the class: its cells at b .. b + 182; the table of ways at wa, of length wn; sw: the two rows of least are swapped -/
def cRow (K : Nat → Option (Nat × Nat)) (rv : Nat → Nat → Option Nat) (a n : Nat) : Prop := K a = some (5, 0) ∧ rv a 0 = some (a + 1) ∧ K (a + 1) = some (9, n)
def cTex (b : Nat) (K : Nat → Option (Nat × Nat)) (rv : Nat → Nat → Option Nat) : Prop := K (b + 1) = some (6, 0) ∧ rv (b + 1) 0 = some (b + 2) ∧ rv (b + 1) 1 = some (b + 4) ∧ cRow K rv (b + 2) 60 ∧ K (b + 4) = some (12, 20) ∧ ∀ t, t < 20 → rv (b + 4) t = some (b + 5 + 2 * t) ∧ cRow K rv (b + 5 + 2 * t) 60
def cPla (b : Nat) (K : Nat → Option (Nat × Nat)) (rv : Nat → Nat → Option Nat) : Prop := K (b + 45) = some (4, 0) ∧ (rv (b + 45) 0 = some (b + 46) ∧ K (b + 46) = some (9, 24)) ∧ (rv (b + 45) 1 = some (b + 47) ∧ K (b + 47) = some (9, 24)) ∧ (rv (b + 45) 2 = some (b + 48) ∧ K (b + 48) = some (9, 24)) ∧ (rv (b + 45) 3 = some (b + 49) ∧ K (b + 49) = some (9, 96)) ∧ (rv (b + 45) 4 = some (b + 50) ∧ K (b + 50) = some (9, 24)) ∧ (rv (b + 45) 5 = some (b + 51) ∧ K (b + 51) = some (9, 24)) ∧ (rv (b + 45) 6 = some (b + 52) ∧ K (b + 52) = some (9, 24)) ∧ (rv (b + 45) 7 = some (b + 53) ∧ K (b + 53) = some (9, 24))
def cWor (b : Nat) (K : Nat → Option (Nat × Nat)) (rv : Nat → Nat → Option Nat) : Prop := K (b + 54) = some (13, 8) ∧ ∀ r, r < 8 → rv (b + 54) r = some (b + 55 + r) ∧ K (b + 55 + r) = some (9, 8)
/-- a build at B -/
def cBui (b B : Nat) (K : Nat → Option (Nat × Nat)) (rv : Nat → Nat → Option Nat) : Prop := K B = some (1, 0) ∧ rv B 0 = some (b + 45) ∧ rv B 1 = some (b + 1) ∧ (rv B 2 = some (B + 1) ∧ K (B + 1) = some (9, 8)) ∧ (rv B 3 = some (B + 2) ∧ K (B + 2) = some (12, 24)) ∧ (rv B 4 = some (B + 3) ∧ K (B + 3) = some (11, 24)) ∧ (rv B 5 = some (B + 4) ∧ K (B + 4) = some (9, 256)) ∧ ∀ s, s < 24 → rv (B + 2) s = some (B + 5 + 2 * s) ∧ cRow K rv (B + 5 + 2 * s) 200
def cAli (b l1 l2 : Nat) (K : Nat → Option (Nat × Nat)) (rv : Nat → Nat → Option Nat) : Prop := K (b + 169) = some (0, 0) ∧ (rv (b + 169) 0 = some (b + 170) ∧ K (b + 170) = some (9, 200)) ∧ (rv (b + 169) 1 = some (b + 171) ∧ K (b + 171) = some (9, 200)) ∧ (rv (b + 169) 2 = some (b + 172) ∧ K (b + 172) = some (9, 200)) ∧ (rv (b + 169) 3 = some (b + 173) ∧ K (b + 173) = some (9, 2500)) ∧ (rv (b + 169) 4 = some l1 ∧ K l1 = some (9, 201)) ∧ (rv (b + 169) 5 = some l2 ∧ K l2 = some (9, 201)) ∧ ((l1 = b + 174 ∧ l2 = b + 175) ∨ (l1 = b + 175 ∧ l2 = b + 174))
def cOrd (b wa wn : Nat) (K : Nat → Option (Nat × Nat)) (rv : Nat → Nat → Option Nat) : Prop := K (b + 176) = some (3, 0) ∧ (rv (b + 176) 0 = some wa ∧ K wa = some (10, wn)) ∧ (rv (b + 176) 1 = some (b + 178) ∧ K (b + 178) = some (9, 16)) ∧ (rv (b + 176) 2 = some (b + 179) ∧ K (b + 179) = some (9, 24)) ∧ (wa = b + 177 ∨ b + 183 ≤ wa) ∧ wn ≤ 32768
def cMak (b : Nat) (K : Nat → Option (Nat × Nat)) (rv : Nat → Nat → Option Nat) : Prop := K (b + 180) = some (2, 0) ∧ (rv (b + 180) 0 = some (b + 181) ∧ K (b + 181) = some (9, 30)) ∧ (rv (b + 180) 1 = some (b + 182) ∧ K (b + 182) = some (9, 30))
def cTop (b : Nat) (K : Nat → Option (Nat × Nat)) (rv : Nat → Nat → Option Nat) : Prop := K b = some (7, 0) ∧ rv b 0 = some (b + 1) ∧ rv b 1 = some (b + 45) ∧ rv b 2 = some (b + 54) ∧ rv b 3 = some (b + 63) ∧ rv b 4 = some (b + 116) ∧ rv b 5 = some (b + 169) ∧ rv b 6 = some (b + 176) ∧ rv b 7 = some (b + 180)
def cL (b l1 l2 wa wn : Nat) (K : Nat → Option (Nat × Nat)) (rv : Nat → Nat → Option Nat) : Prop := cTop b K rv ∧ cTex b K rv ∧ cPla b K rv ∧ cWor b K rv ∧ cBui b (b + 63) K rv ∧ cBui b (b + 116) K rv ∧ cAli b l1 l2 K rv ∧ cOrd b wa wn K rv ∧ cMak b K rv
/-- what may have changed: addresses from lo to hi (without hi) -/
def fC (lo hi : Nat) (iv iv' : Nat → Nat → Int32) : Prop := ∀ a : Nat, (a < lo ∨ hi ≤ a) → iv' a = iv a
section ZPL
variable {b : Nat} {K : Nat → Option (Nat × Nat)} {rv : Nat → Nat → Option Nat}
theorem cPla.r_tools (h : cPla b K rv) : rv (b + 45) 0 = some (b + 46) := h.2.1.1
theorem cPla.k_tools (h : cPla b K rv) : K (b + 46) = some (9, 24) := h.2.1.2
theorem cPla.r_as (h : cPla b K rv) : rv (b + 45) 1 = some (b + 47) := h.2.2.1.1
theorem cPla.k_as (h : cPla b K rv) : K (b + 47) = some (9, 24) := h.2.2.1.2
theorem cPla.r_bs (h : cPla b K rv) : rv (b + 45) 2 = some (b + 48) := h.2.2.2.1.1
theorem cPla.k_bs (h : cPla b K rv) : K (b + 48) = some (9, 24) := h.2.2.2.1.2
theorem cPla.r_inputs (h : cPla b K rv) : rv (b + 45) 3 = some (b + 49) := h.2.2.2.2.1.1
theorem cPla.k_inputs (h : cPla b K rv) : K (b + 49) = some (9, 96) := h.2.2.2.2.1.2
theorem cPla.r_inputCount (h : cPla b K rv) : rv (b + 45) 4 = some (b + 50) := h.2.2.2.2.2.1.1
theorem cPla.k_inputCount (h : cPla b K rv) : K (b + 50) = some (9, 24) := h.2.2.2.2.2.1.2
theorem cPla.r_used (h : cPla b K rv) : rv (b + 45) 5 = some (b + 51) := h.2.2.2.2.2.2.1.1
theorem cPla.k_used (h : cPla b K rv) : K (b + 51) = some (9, 24) := h.2.2.2.2.2.2.1.2
theorem cPla.r_usedTexts (h : cPla b K rv) : rv (b + 45) 6 = some (b + 52) := h.2.2.2.2.2.2.2.1.1
theorem cPla.k_usedTexts (h : cPla b K rv) : K (b + 52) = some (9, 24) := h.2.2.2.2.2.2.2.1.2
theorem cPla.r_usedWords (h : cPla b K rv) : rv (b + 45) 7 = some (b + 53) := h.2.2.2.2.2.2.2.2.1
theorem cPla.k_usedWords (h : cPla b K rv) : K (b + 53) = some (9, 24) := h.2.2.2.2.2.2.2.2.2
end ZPL
