/-! both sides side by side -/
section R1
variable {N b bm z wn : Nat} {K Km : Nat → Option (Nat × Nat)} {iv ivm iv' ivm' : Nat → Nat → Int32} {rv rvm : Nat → Nat → Option Nat} {lv lvm : Nat → Nat → Int64}
variable {tp : List Int32} {nt : Nat} {tx : Nat → List Int32} {lk : Nat → Bool} {ns : Nat} {tl : Nat → Nat} {pa : Nat → Int32} {pb : Nat → Nat} {ins : Nat → List Nat} {wd : Nat → Nat → Int32} {mb : Nat → Option Nat} {mf : Nat → Nat} {fg : Nat → Bool} {ch : List (Int32 × Int32 × Int32)}
/-- class and model hold the same -/
def RA (b bm z wn : Nat) (K : Nat → Option (Nat × Nat)) (iv : Nat → Nat → Int32) (rv : Nat → Nat → Option Nat) (Km : Nat → Option (Nat × Nat)) (ivm : Nat → Nat → Int32) (rvm : Nat → Nat → Option Nat) (tp : List Int32) (nt : Nat) (tx : Nat → List Int32) (lk : Nat → Bool) (ns : Nat) (tl : Nat → Nat) (pa : Nat → Int32) (pb : Nat → Nat) (ins : Nat → List Nat) (wd : Nat → Nat → Int32) (mb : Nat → Option Nat) (mf : Nat → Nat) (fg : Nat → Bool) (ch : List (Int32 × Int32 × Int32)) : Prop :=
  (∃ l1 l2 wa, cL b l1 l2 wa wn K rv) ∧ mL bm Km rvm ∧ cA b iv tp nt tx lk ns tl pa pb ins wd ∧ mA bm ivm tp nt tx lk ns tl pa pb ins wd ∧ cM b iv mb mf fg ∧ mM bm ivm mb mf fg ∧ dM mb mf ∧ cC b iv ch ∧ mC bm ivm ch ∧ ch.length ≤ 200 ∧ b + 183 ≤ z ∧ ∃ e, wn = 2 ^ e
def RR (b bm z wn : Nat) (Sc Sm : zS) : Prop := ∃ K iv rv lv Km ivm rvm lvm tp nt tx lk ns tl pa pb ins wd mb mf fg ch, Sc = (K, iv, rv, lv) ∧ Sm = (Km, ivm, rvm, lvm) ∧ RA b bm z wn K iv rv Km ivm rvm tp nt tx lk ns tl pa pb ins wd mb mf fg ch
theorem RA.rr (h : RA b bm z wn K iv rv Km ivm rvm tp nt tx lk ns tl pa pb ins wd mb mf fg ch) : RR b bm z wn (K, iv, rv, lv) (Km, ivm, rvm, lvm) := ⟨K, iv, rv, lv, Km, ivm, rvm, lvm, tp, nt, tx, lk, ns, tl, pa, pb, ins, wd, mb, mf, fg, ch, rfl, rfl, h⟩
/-- only scratch has changed -/
theorem RA.scr {A : Nat → Prop} {rs ks : List Nat} (h : RA b bm z wn K iv rv Km ivm rvm tp nt tx lk ns tl pa pb ins wd mb mf fg ch) (hf : fQ A iv iv') (hA : ∀ a, A a → b + 63 ≤ a ∧ (a < b + 169 ∨ (b + 173 ≤ a ∧ a < b + 180) ∨ b + 183 ≤ a)) (hm : fM bm rs ks ivm ivm') (h1 : ∀ r ∈ rs, r ∈ [11, 12, 13, 14, 15, 16, 17, 19, 26, 27]) (h2 : ∀ k ∈ ks, k ∈ [18]) : RA b bm z wn K iv' rv Km ivm' rvm tp nt tx lk ns tl pa pb ins wd mb mf fg ch := by
  obtain ⟨a1, a2, a3, a4, a5, a6, a7, a8, a9, a10, a11, a12⟩ := h
  have hm2 := hm.mo h1 h2
  exact ⟨a1, a2, a3.fr hf (fun a g1 g2 q => by have := hA a q; omega), a4.fr hm2 (by decide) (by decide), a5.fr hf (fun a g1 g2 q => by have := hA a q; omega), a6.fr hm2 (by decide), a7, a8.fr hf (fun a g1 g2 q => by have := hA a q; omega), a9.fr hm2 (by decide) (by decide), a10, a11, a12⟩
/-- one call on both sides -/
theorem LFg {Sc Sm : zS} {A B : Option (Int32 × zS)} {Pc Pm : Int32 × zS → Prop} {Q : zS → zS → Prop} (h7 : zrc Sc b 7 = some ()) (h8 : zrc Sm bm 8 = some ()) (hc : zw A Pc) (hm : zw B Pm) (k : ∀ p q, Pc p → Pm q → p.1 = q.1 ∧ Q p.2 q.2) : zw ((zrc Sc b 7).bind fun _ => zb2 A fun r Sc => (zrc Sm bm 8).bind fun _ => zb2 B fun r2 Sm => if r = r2 then some (Sc, Sm, z) else none) (fun t => Q t.1 t.2.1 ∧ t.2.2 = z) := by
  refine zw.e h7 ?_
  refine zw.c2 hc ?_
  intro r S1 hp
  refine zw.e h8 ?_
  refine zw.c2 hm ?_
  intro r2 S2 hq
  obtain ⟨e, hQ⟩ := k _ _ hp hq
  exact zw.t e (zw.s ⟨hQ, rfl⟩)
theorem RA.z7 (h : RA b bm z wn K iv rv Km ivm rvm tp nt tx lk ns tl pa pb ins wd mb mf fg ch) : zrc (K, iv, rv, lv) b 7 = some () := by
  obtain ⟨⟨l1, l2, wa, hL⟩, -⟩ := h
  exact zrc_at hL.1.1
theorem RA.z8 (h : RA b bm z wn K iv rv Km ivm rvm tp nt tx lk ns tl pa pb ins wd mb mf fg ch) : zrc (Km, ivm, rvm, lvm) bm 8 = some () := zrc_at h.2.1.o
/-! what is known of the values by themselves stays -/
theorem fdB_B {n : Nat} {v : Int32} : ∀ x ∈ fdB n v, isB x := fun x hx => by
  unfold fdB at hx
  obtain ⟨k, -, rfl⟩ := List.mem_map.mp hx
  exact isB_and _
theorem dT.feed {n v : Int32} (h : dT tp nt tx lk) : dT (spFeed tp n v).2 nt tx lk := by
  obtain ⟨h1, h2, h3, h4, h5, h6⟩ := h
  unfold spFeed
  split
  · split
    · next hl =>
      refine ⟨by simp [fdB]; omega, h2, h3, h4, fun x hx => ?_, h6⟩
      rcases List.mem_append.mp hx with hx | hx
      · exact h5 x hx
      · exact fdB_B x hx
    · exact ⟨h1, h2, h3, h4, h5, h6⟩
  · exact ⟨h1, h2, h3, h4, h5, h6⟩
theorem dT.text (h : dT tp nt tx lk) (hn : nt ≠ 20) : dT [] (nt + 1) (upT tx nt tp) lk := by
  obtain ⟨h1, h2, h3, h4, h5, h6⟩ := h
  refine ⟨by simp, by omega, fun t ht => ?_, fun t ht => h4 t (by omega), (fun x hx => by cases hx), fun t ht => ?_⟩
  · unfold upT
    by_cases e : t = nt
    · rw [if_pos e]; exact h1
    · rw [if_neg e]; exact h3 t (by omega)
  · unfold upT
    by_cases e : t = nt
    · rw [if_pos e]; exact h5
    · rw [if_neg e]; exact h6 t (by omega)
theorem dT.write {t0 : Nat} (h : dT tp nt tx lk) : dT [] nt (upT tx t0 tp) lk := by
  obtain ⟨h1, h2, h3, h4, h5, h6⟩ := h
  refine ⟨by simp, h2, fun t ht => ?_, h4, (fun x hx => by cases hx), fun t ht => ?_⟩
  · unfold upT
    by_cases e : t = t0
    · rw [if_pos e]; exact h1
    · rw [if_neg e]; exact h3 t ht
  · unfold upT
    by_cases e : t = t0
    · rw [if_pos e]; exact h5
    · rw [if_neg e]; exact h6 t ht
theorem dT.lack {t0 : Nat} {v : Bool} (h : dT tp nt tx lk) (ht0 : t0 < nt) : dT tp nt tx (upB lk t0 v) := by
  obtain ⟨h1, h2, h3, h4, h5, h6⟩ := h
  exact ⟨h1, h2, h3, fun t ht => (upB_ne (show t ≠ t0 by omega)).trans (h4 t ht), h5, h6⟩
theorem dP.more (h : dP nt ns tl pa pb ins) : dP (nt + 1) ns tl pa pb ins := ⟨h.1, fun s hs => by
  obtain ⟨d1, d2, d3, d4, d5⟩ := h.2 s hs
  exact ⟨d1, d2, d3, d4, fun i hi => by rcases d5 i hi with q | q <;> omega⟩⟩
theorem dP.step {x v : Nat} {y : Int32} (h : dP nt ns tl pa pb ins) (hn : ns ≠ 24) (hx : x < 8) (hy : isB y) (hv : v < 8) : dP nt (ns + 1) (upB tl ns x) (upB pa ns y) (upB pb ns v) (upB ins ns []) := ⟨by have := h.1; omega, fun s hs => by
  by_cases e : s = ns
  · rw [e, upB_eq, upB_eq, upB_eq, upB_eq]
    exact ⟨by omega, hy, hv, by simp, fun i hi => by cases hi⟩
  · rw [upB_ne e, upB_ne e, upB_ne e, upB_ne e]
    exact h.2 s (by omega)⟩
theorem dP.need {s i : Nat} (h : dP nt ns tl pa pb ins) (hs : s < ns) (h4 : (ins s).length ≠ 4) (hi : i < nt ∨ (100 ≤ i ∧ i < 100 + s)) : dP nt ns tl pa pb (upB ins s (ins s ++ [i])) := ⟨h.1, fun j hj => by
  obtain ⟨d1, d2, d3, d4, d5⟩ := h.2 j hj
  by_cases e : j = s
  · subst e
    rw [upB_eq]
    refine ⟨d1, d2, d3, by rw [len_snoc]; omega, fun k hk => ?_⟩
    rcases List.mem_append.mp hk with hk | hk
    · exact d5 k hk
    · rw [List.mem_singleton.mp hk]; exact hi
  · rw [upB_ne e]
    exact ⟨d1, d2, d3, d4, d5⟩⟩
theorem isB_in {v : Int32} (h : inR 256 v) : isB v := by
  obtain ⟨k, hk, e⟩ := h.at (by decide)
  exact ⟨k, hk, e⟩
theorem dW.word {r w : Nat} {v : Int32} (h : dW wd) (hv : isB v) : dW (zu wd r w v) := fun r' w' h1 h2 => by
  by_cases e : r' = r ∧ w' = w
  · rw [e.1, e.2, zu_s]; exact hv
  · rw [zu_o e]; exact h r' w' h1 h2
theorem dW.copy {p q : Nat} (h : dW wd) (hp : p < 8) : dW (cpW wd p q) := fun r w h1 h2 => by
  unfold cpW
  split
  · exact h p w hp h2
  · exact h r w h1 h2
theorem dM.maker {x y t : Int32} (h : dM mb mf) (hn : nt ≤ 20) (hok : mkOk nt x y t) : dM (upB mb x.toNatClampNeg (mkBy y)) (upB mf x.toNatClampNeg (mkFr y t)) := fun m hm => by
  by_cases e : m = x.toNatClampNeg
  · rw [e, upB_eq, upB_eq]
    rcases hok.2 with hy | ⟨hy, ht⟩
    · constructor
      · intro k hk
        simp [mkBy, hy] at hk
      · simp [mkFr, hy]
    · obtain ⟨ky, hky, eky⟩ := hy.at (by decide)
      obtain ⟨kt, hkt, ekt⟩ := ht.at (by omega)
      constructor
      · intro k hk
        unfold mkBy at hk
        split at hk
        · cases hk
        · cases hk
          rw [eky, nI_clamp (by omega)]; exact hky
      · unfold mkFr
        split
        · decide
        · rw [ekt, nI_clamp (by omega)]; omega
  · rw [upB_ne e, upB_ne e]
    exact h m hm
end R1
