/-! every call: both sides answer alike and hold the same behind it -/
section R2
variable {N b bm z wn : Nat} {K Km : Nat → Option (Nat × Nat)} {iv ivm iv' ivm' : Nat → Nat → Int32} {rv rvm : Nat → Nat → Option Nat} {lv lvm : Nat → Nat → Int64}
variable {tp : List Int32} {nt : Nat} {tx : Nat → List Int32} {lk : Nat → Bool} {ns : Nat} {tl : Nat → Nat} {pa : Nat → Int32} {pb : Nat → Nat} {ins : Nat → List Nat} {wd : Nat → Nat → Int32} {mb : Nat → Option Nat} {mf : Nat → Nat} {fg : Nat → Bool} {ch : List (Int32 × Int32 × Int32)} {a1 a2 a3 a4 : Int32} {MC MS : Nat}
theorem R_8 (h : RA b bm z wn K iv rv Km ivm rvm tp nt tx lk ns tl pa pb ins wd mb mf fg ch) (hN : 70000 < N) : zw (LV8 N MC MS b bm a1 a2 a3 a4 (K, iv, rv, lv) (Km, ivm, rvm, lvm) z) (fun t => RR b bm z wn t.1 t.2.1 ∧ t.2.2 = z) := by
  obtain ⟨⟨l1, l2, wa, hL⟩, mL0, cA0, mA0, cM0, mM0, dM0, cC0, mC0, hch, hz, hw2⟩ := id h
  have hL' := hL
  obtain ⟨hC, hX, hPl, hWo, hB1, hB2, hAl, hO, hMk⟩ := hL'
  obtain ⟨cT0, cP0, cW0, dT0, dP0, dW0⟩ := id cA0
  obtain ⟨mT0, mP0, mW0, -, -, -⟩ := id mA0
  unfold LV8
  refine LFg h.z7 h.z8 (c_made (x := a1) (y := a2) hL.g cA0 (by omega)) (m_made (x := a1) (y := a2) mL0 mA0 (by omega)) ?_
  rintro ⟨r1, S1⟩ ⟨r2, S2⟩ ⟨e1, iv1, s1, f1⟩ ⟨e2, iv2, s2, f2⟩
  dsimp only at e1 e2 s1 s2
  subst s1
  subst s2
  exact ⟨e1.trans e2.symm, (h.scr f1 (fun a q => by omega) f2 (by decide) (by decide)).rr⟩
theorem R_9 (h : RA b bm z wn K iv rv Km ivm rvm tp nt tx lk ns tl pa pb ins wd mb mf fg ch) (hN : 70000 < N) : zw (LV9 N MC MS b bm a1 a2 a3 a4 (K, iv, rv, lv) (Km, ivm, rvm, lvm) z) (fun t => RR b bm z wn t.1 t.2.1 ∧ t.2.2 = z) := by
  obtain ⟨⟨l1, l2, wa, hL⟩, mL0, cA0, mA0, cM0, mM0, dM0, cC0, mC0, hch, hz, hw2⟩ := id h
  have hL' := hL
  obtain ⟨hC, hX, hPl, hWo, hB1, hB2, hAl, hO, hMk⟩ := hL'
  obtain ⟨cT0, cP0, cW0, dT0, dP0, dW0⟩ := id cA0
  obtain ⟨mT0, mP0, mW0, -, -, -⟩ := id mA0
  unfold LV9
  refine LFg h.z7 h.z8 (c_at (x := a1) (y := a2) (v := a3) hL.g cA0 (by omega)) (m_at (x := a1) (y := a2) (v := a3) mL0 mA0 (by omega)) ?_
  rintro ⟨r1, S1⟩ ⟨r2, S2⟩ ⟨e1, iv1, s1, f1⟩ ⟨e2, iv2, s2, f2⟩
  dsimp only at e1 e2 s1 s2
  subst s1
  subst s2
  exact ⟨e1.trans e2.symm, (h.scr f1 (fun a q => by omega) f2 (by decide) (by decide)).rr⟩
theorem R_10 (h : RA b bm z wn K iv rv Km ivm rvm tp nt tx lk ns tl pa pb ins wd mb mf fg ch) (hN : 70000 < N) : zw (LV10 N MC MS b bm a1 a2 a3 a4 (K, iv, rv, lv) (Km, ivm, rvm, lvm) z) (fun t => RR b bm z wn t.1 t.2.1 ∧ t.2.2 = z) := by
  obtain ⟨⟨l1, l2, wa, hL⟩, mL0, cA0, mA0, cM0, mM0, dM0, cC0, mC0, hch, hz, hw2⟩ := id h
  have hL' := hL
  obtain ⟨hC, hX, hPl, hWo, hB1, hB2, hAl, hO, hMk⟩ := hL'
  obtain ⟨cT0, cP0, cW0, dT0, dP0, dW0⟩ := id cA0
  obtain ⟨mT0, mP0, mW0, -, -, -⟩ := id mA0
  unfold LV10
  refine LFg h.z7 h.z8 (c_reads (x := a1) (y := a2) (v := a3) hL.g cA0 (by omega)) (m_reads (x := a1) (y := a2) (v := a3) mL0 mA0 (by omega)) ?_
  rintro ⟨r1, S1⟩ ⟨r2, S2⟩ ⟨e1, iv1, s1, f1⟩ ⟨e2, iv2, s2, f2⟩
  dsimp only at e1 e2 s1 s2
  subst s1
  subst s2
  exact ⟨e1.trans e2.symm, (h.scr f1 (fun a q => by omega) f2 (by decide) (by decide)).rr⟩
theorem R_13 (h : RA b bm z wn K iv rv Km ivm rvm tp nt tx lk ns tl pa pb ins wd mb mf fg ch) (hN : 70000 < N) : zw (LV13 N MC MS b bm a1 a2 a3 a4 (K, iv, rv, lv) (Km, ivm, rvm, lvm) z) (fun t => RR b bm z wn t.1 t.2.1 ∧ t.2.2 = z) := by
  obtain ⟨⟨l1, l2, wa, hL⟩, mL0, cA0, mA0, cM0, mM0, dM0, cC0, mC0, hch, hz, hw2⟩ := id h
  have hL' := hL
  obtain ⟨hC, hX, hPl, hWo, hB1, hB2, hAl, hO, hMk⟩ := hL'
  obtain ⟨cT0, cP0, cW0, dT0, dP0, dW0⟩ := id cA0
  obtain ⟨mT0, mP0, mW0, -, -, -⟩ := id mA0
  unfold LV13
  refine LFg h.z7 h.z8 (c_built (x := a1) hL.g cA0 (by omega)) (m_built (x := a1) mL0 mA0 (by omega)) ?_
  rintro ⟨r1, S1⟩ ⟨r2, S2⟩ ⟨e1, iv1, s1, f1⟩ ⟨e2, iv2, s2, f2⟩
  dsimp only at e1 e2 s1 s2
  subst s1
  subst s2
  exact ⟨e1.trans e2.symm, (h.scr f1 (fun a q => by omega) f2 (by decide) (by decide)).rr⟩
theorem R_14 (h : RA b bm z wn K iv rv Km ivm rvm tp nt tx lk ns tl pa pb ins wd mb mf fg ch) (hN : 70000 < N) : zw (LV14 N MC MS b bm a1 a2 a3 a4 (K, iv, rv, lv) (Km, ivm, rvm, lvm) z) (fun t => RR b bm z wn t.1 t.2.1 ∧ t.2.2 = z) := by
  obtain ⟨⟨l1, l2, wa, hL⟩, mL0, cA0, mA0, cM0, mM0, dM0, cC0, mC0, hch, hz, hw2⟩ := id h
  have hL' := hL
  obtain ⟨hC, hX, hPl, hWo, hB1, hB2, hAl, hO, hMk⟩ := hL'
  obtain ⟨cT0, cP0, cW0, dT0, dP0, dW0⟩ := id cA0
  obtain ⟨mT0, mP0, mW0, -, -, -⟩ := id mA0
  unfold LV14
  refine LFg h.z7 h.z8 (c_alike (x := a1) (y := a2) (v := a3) hL.g cA0 (by omega)) (m_alike (x := a1) (y := a2) (v := a3) mL0 mA0 (by omega)) ?_
  rintro ⟨r1, S1⟩ ⟨r2, S2⟩ ⟨e1, iv1, s1, f1⟩ ⟨e2, iv2, s2, f2⟩
  dsimp only at e1 e2 s1 s2
  subst s1
  subst s2
  exact ⟨e1.trans e2.symm, (h.scr f1 (fun a q => by omega) f2 (by decide) (by decide)).rr⟩
theorem R_17 (h : RA b bm z wn K iv rv Km ivm rvm tp nt tx lk ns tl pa pb ins wd mb mf fg ch) (hN : 70000 < N) : zw (LV17 N MC MS b bm a1 a2 a3 a4 (K, iv, rv, lv) (Km, ivm, rvm, lvm) z) (fun t => RR b bm z wn t.1 t.2.1 ∧ t.2.2 = z) := by
  obtain ⟨⟨l1, l2, wa, hL⟩, mL0, cA0, mA0, cM0, mM0, dM0, cC0, mC0, hch, hz, hw2⟩ := id h
  have hL' := hL
  obtain ⟨hC, hX, hPl, hWo, hB1, hB2, hAl, hO, hMk⟩ := hL'
  obtain ⟨cT0, cP0, cW0, dT0, dP0, dW0⟩ := id cA0
  obtain ⟨mT0, mP0, mW0, -, -, -⟩ := id mA0
  unfold LV17
  refine LFg h.z7 h.z8 (c_cause (x := a1) (y := a2) (v := a3) hL.g cA0 (by omega)) (m_cause (x := a1) (y := a2) (v := a3) mL0 mA0 (by omega)) ?_
  rintro ⟨r1, S1⟩ ⟨r2, S2⟩ ⟨⟨p1, n1⟩, iv1, s1, f1⟩ ⟨⟨p2, n2⟩, iv2, s2, f2⟩
  dsimp only at p1 n1 p2 n2 s1 s2
  subst s1
  subst s2
  refine ⟨?_, (h.scr f1 (fun a q => by omega) f2 (by decide) (by decide)).rr⟩
  by_cases hr : inR 8 a1 ∧ inR 8 a2 ∧ inR ns a3
  · exact (p1 hr).one (p2 hr)
  · rw [n1 hr, n2 hr]
theorem R_18 (h : RA b bm z wn K iv rv Km ivm rvm tp nt tx lk ns tl pa pb ins wd mb mf fg ch) (hN : 70000 < N) : zw (LV18 N MC MS b bm a1 a2 a3 a4 (K, iv, rv, lv) (Km, ivm, rvm, lvm) z) (fun t => RR b bm z wn t.1 t.2.1 ∧ t.2.2 = z) := by
  obtain ⟨⟨l1, l2, wa, hL⟩, mL0, cA0, mA0, cM0, mM0, dM0, cC0, mC0, hch, hz, hw2⟩ := id h
  have hL' := hL
  obtain ⟨hC, hX, hPl, hWo, hB1, hB2, hAl, hO, hMk⟩ := hL'
  obtain ⟨cT0, cP0, cW0, dT0, dP0, dW0⟩ := id cA0
  obtain ⟨mT0, mP0, mW0, -, -, -⟩ := id mA0
  unfold LV18
  refine LFg h.z7 h.z8 (c_fix (x := a1) (y := a2) (v := a3) hL.g cA0 (by omega)) (m_fix (x := a1) (y := a2) (v := a3) mL0 mA0 (by omega)) ?_
  rintro ⟨r1, S1⟩ ⟨r2, S2⟩ ⟨⟨p1, n1⟩, iv1, s1, f1⟩ ⟨⟨p2, n2⟩, iv2, s2, f2⟩
  dsimp only at p1 n1 p2 n2 s1 s2
  subst s1
  subst s2
  refine ⟨?_, (h.scr f1 (fun a q => by omega) f2 (by decide) (by decide)).rr⟩
  by_cases hr : inR 8 a1 ∧ inR 8 a2 ∧ inR ns a3
  · exact (p1 hr).one (p2 hr)
  · rw [n1 hr, n2 hr]
theorem R_19 (h : RA b bm z wn K iv rv Km ivm rvm tp nt tx lk ns tl pa pb ins wd mb mf fg ch) (hN : 70000 < N) : zw (LV19 N MC MS b bm a1 a2 a3 a4 (K, iv, rv, lv) (Km, ivm, rvm, lvm) z) (fun t => RR b bm z wn t.1 t.2.1 ∧ t.2.2 = z) := by
  obtain ⟨⟨l1, l2, wa, hL⟩, mL0, cA0, mA0, cM0, mM0, dM0, cC0, mC0, hch, hz, hw2⟩ := id h
  have hL' := hL
  obtain ⟨hC, hX, hPl, hWo, hB1, hB2, hAl, hO, hMk⟩ := hL'
  obtain ⟨cT0, cP0, cW0, dT0, dP0, dW0⟩ := id cA0
  obtain ⟨mT0, mP0, mW0, -, -, -⟩ := id mA0
  unfold LV19
  refine LFg h.z7 h.z8 (c_stable (x := a1) (y := a2) (v := a3) (t := a4) hL.g cA0 (by omega)) (m_stable (x := a1) (y := a2) (v := a3) (t := a4) mL0 mA0 (by omega)) ?_
  rintro ⟨r1, S1⟩ ⟨r2, S2⟩ ⟨⟨p1, n1⟩, iv1, s1, f1⟩ ⟨⟨p2, n2⟩, iv2, s2, f2⟩
  dsimp only at p1 n1 p2 n2 s1 s2
  subst s1
  subst s2
  refine ⟨?_, (h.scr f1 (fun a q => by omega) f2 (by decide) (by decide)).rr⟩
  by_cases hr : inR 8 a1 ∧ inR ns a2 ∧ inR 8 a3 ∧ inR 256 a4
  · obtain ⟨u1, v1, w1⟩ := p1 hr
    obtain ⟨u2, v2, w2⟩ := p2 hr
    show r1 = r2
    rw [w1, w2, v1.one v2]
  · rw [n1 hr, n2 hr]
theorem R_20 (h : RA b bm z wn K iv rv Km ivm rvm tp nt tx lk ns tl pa pb ins wd mb mf fg ch) (hN : 70000 < N) : zw (LV20 N MC MS b bm a1 a2 a3 a4 (K, iv, rv, lv) (Km, ivm, rvm, lvm) z) (fun t => RR b bm z wn t.1 t.2.1 ∧ t.2.2 = z) := by
  obtain ⟨⟨l1, l2, wa, hL⟩, mL0, cA0, mA0, cM0, mM0, dM0, cC0, mC0, hch, hz, hw2⟩ := id h
  have hL' := hL
  obtain ⟨hC, hX, hPl, hWo, hB1, hB2, hAl, hO, hMk⟩ := hL'
  obtain ⟨cT0, cP0, cW0, dT0, dP0, dW0⟩ := id cA0
  obtain ⟨mT0, mP0, mW0, -, -, -⟩ := id mA0
  unfold LV20
  refine LFg h.z7 h.z8 (c_breaks (x := a1) (y := a2) (v := a3) hL.g cA0 (by omega)) (m_breaks (x := a1) (y := a2) (v := a3) mL0 mA0 (by omega)) ?_
  rintro ⟨r1, S1⟩ ⟨r2, S2⟩ ⟨⟨p1, n1⟩, iv1, s1, f1⟩ ⟨⟨p2, n2⟩, iv2, s2, f2⟩
  dsimp only at p1 n1 p2 n2 s1 s2
  subst s1
  subst s2
  refine ⟨?_, (h.scr f1 (fun a q => by omega) f2 (by decide) (by decide)).rr⟩
  by_cases hr : inR 8 a1 ∧ inR ns a2 ∧ inR 8 a3
  · exact (p1 hr).one (p2 hr)
  · rw [n1 hr, n2 hr]
theorem R_21 (h : RA b bm z wn K iv rv Km ivm rvm tp nt tx lk ns tl pa pb ins wd mb mf fg ch) (hN : 70000 < N) : zw (LV21 N MC MS b bm a1 a2 a3 a4 (K, iv, rv, lv) (Km, ivm, rvm, lvm) z) (fun t => RR b bm z wn t.1 t.2.1 ∧ t.2.2 = z) := by
  obtain ⟨⟨l1, l2, wa, hL⟩, mL0, cA0, mA0, cM0, mM0, dM0, cC0, mC0, hch, hz, hw2⟩ := id h
  have hL' := hL
  obtain ⟨hC, hX, hPl, hWo, hB1, hB2, hAl, hO, hMk⟩ := hL'
  obtain ⟨cT0, cP0, cW0, dT0, dP0, dW0⟩ := id cA0
  obtain ⟨mT0, mP0, mW0, -, -, -⟩ := id mA0
  unfold LV21
  refine LFg h.z7 h.z8 (c_rooms (x := a1) (y := a2) hL.g cA0 (by omega)) (m_rooms (x := a1) (y := a2) mL0 mA0 (by omega)) ?_
  rintro ⟨r1, S1⟩ ⟨r2, S2⟩ ⟨⟨p1, n1⟩, iv1, s1, f1⟩ ⟨⟨p2, n2⟩, iv2, s2, f2⟩
  dsimp only at p1 n1 p2 n2 s1 s2
  subst s1
  subst s2
  refine ⟨?_, (h.scr f1 (fun a q => by omega) f2 (by decide) (by decide)).rr⟩
  by_cases hr : inR ns a1 ∧ (¬ a2 < 1 ∧ ¬ 255 < a2)
  · exact (p1 hr).one (p2 hr)
  · rw [n1 hr, n2 hr]
theorem R_11 (h : RA b bm z wn K iv rv Km ivm rvm tp nt tx lk ns tl pa pb ins wd mb mf fg ch) (hN : 70000 < N) : zw (LV11 N MC MS b bm a1 a2 a3 a4 (K, iv, rv, lv) (Km, ivm, rvm, lvm) z) (fun t => RR b bm z wn t.1 t.2.1 ∧ t.2.2 = z) := by
  obtain ⟨⟨l1, l2, wa, hL⟩, mL0, cA0, mA0, cM0, mM0, dM0, cC0, mC0, hch, hz, hw2⟩ := id h
  have hL' := hL
  obtain ⟨hC, hX, hPl, hWo, hB1, hB2, hAl, hO, hMk⟩ := hL'
  obtain ⟨cT0, cP0, cW0, dT0, dP0, dW0⟩ := id cA0
  obtain ⟨mT0, mP0, mW0, -, -, -⟩ := id mA0
  unfold LV11
  refine LFg h.z7 h.z8 (c_uses (x := a1) (y := a2) hC hPl cP0 dP0) (m_uses (x := a1) (y := a2) mL0 mA0 (by omega)) ?_
  rintro ⟨r1, S1⟩ ⟨r2, S2⟩ ⟨e1, s1⟩ ⟨e2, s2⟩
  dsimp only at e1 e2 s1 s2
  subst s1
  subst s2
  exact ⟨e1.trans e2.symm, h.rr⟩
theorem R_23 (h : RA b bm z wn K iv rv Km ivm rvm tp nt tx lk ns tl pa pb ins wd mb mf fg ch) (hN : 70000 < N) : zw (LV23 N MC MS b bm a1 a2 a3 a4 (K, iv, rv, lv) (Km, ivm, rvm, lvm) z) (fun t => RR b bm z wn t.1 t.2.1 ∧ t.2.2 = z) := by
  obtain ⟨⟨l1, l2, wa, hL⟩, mL0, cA0, mA0, cM0, mM0, dM0, cC0, mC0, hch, hz, hw2⟩ := id h
  have hL' := hL
  obtain ⟨hC, hX, hPl, hWo, hB1, hB2, hAl, hO, hMk⟩ := hL'
  obtain ⟨cT0, cP0, cW0, dT0, dP0, dW0⟩ := id cA0
  obtain ⟨mT0, mP0, mW0, -, -, -⟩ := id mA0
  unfold LV23
  refine LFg h.z7 h.z8 (c_down (x := a1) hC hMk cM0 dM0 (by omega)) (m_down (x := a1) mL0 mM0 dM0 (by omega)) ?_
  intro p q e1 e2
  subst e1
  subst e2
  exact ⟨rfl, h.rr⟩
theorem R_24 (h : RA b bm z wn K iv rv Km ivm rvm tp nt tx lk ns tl pa pb ins wd mb mf fg ch) (hN : 70000 < N) : zw (LV24 N MC MS b bm a1 a2 a3 a4 (K, iv, rv, lv) (Km, ivm, rvm, lvm) z) (fun t => RR b bm z wn t.1 t.2.1 ∧ t.2.2 = z) := by
  obtain ⟨⟨l1, l2, wa, hL⟩, mL0, cA0, mA0, cM0, mM0, dM0, cC0, mC0, hch, hz, hw2⟩ := id h
  have hL' := hL
  obtain ⟨hC, hX, hPl, hWo, hB1, hB2, hAl, hO, hMk⟩ := hL'
  obtain ⟨cT0, cP0, cW0, dT0, dP0, dW0⟩ := id cA0
  obtain ⟨mT0, mP0, mW0, -, -, -⟩ := id mA0
  unfold LV24
  refine LFg h.z7 h.z8 (c_ring (x := a1) (y := a2) hC hMk cM0 dM0 (by omega)) (m_ring (x := a1) (y := a2) mL0 mM0 dM0 (by omega)) ?_
  rintro ⟨r1, S1⟩ ⟨r2, S2⟩ ⟨e1, s1⟩ ⟨e2, iv2, s2, f2⟩
  dsimp only at e1 e2 s1 s2
  subst s1
  subst s2
  exact ⟨e1.trans e2.symm, (h.scr (A := fun _ => False) fQ.rf (fun a q => q.elim) f2 (by decide) (by decide)).rr⟩
theorem R_25 (h : RA b bm z wn K iv rv Km ivm rvm tp nt tx lk ns tl pa pb ins wd mb mf fg ch) (hN : 70000 < N) : zw (LV25 N MC MS b bm a1 a2 a3 a4 (K, iv, rv, lv) (Km, ivm, rvm, lvm) z) (fun t => RR b bm z wn t.1 t.2.1 ∧ t.2.2 = z) := by
  obtain ⟨⟨l1, l2, wa, hL⟩, mL0, cA0, mA0, cM0, mM0, dM0, cC0, mC0, hch, hz, hw2⟩ := id h
  have hL' := hL
  obtain ⟨hC, hX, hPl, hWo, hB1, hB2, hAl, hO, hMk⟩ := hL'
  obtain ⟨cT0, cP0, cW0, dT0, dP0, dW0⟩ := id cA0
  obtain ⟨mT0, mP0, mW0, -, -, -⟩ := id mA0
  unfold LV25
  refine LFg h.z7 h.z8 (c_needs (x := a1) (y := a2) hC hX hMk cT0 cM0 dM0 (by omega)) (m_needs (x := a1) (y := a2) mL0 mT0 mM0 dM0 (by omega)) ?_
  rintro ⟨r1, S1⟩ ⟨r2, S2⟩ ⟨e1, s1⟩ ⟨e2, iv2, s2, f2⟩
  dsimp only at e1 e2 s1 s2
  subst s1
  subst s2
  exact ⟨e1.trans e2.symm, (h.scr (A := fun _ => False) fQ.rf (fun a q => q.elim) f2 (by decide) (by decide)).rr⟩
theorem R_27 (h : RA b bm z wn K iv rv Km ivm rvm tp nt tx lk ns tl pa pb ins wd mb mf fg ch) (hN : 70000 < N) : zw (LV27 N MC MS b bm a1 a2 a3 a4 (K, iv, rv, lv) (Km, ivm, rvm, lvm) z) (fun t => RR b bm z wn t.1 t.2.1 ∧ t.2.2 = z) := by
  obtain ⟨⟨l1, l2, wa, hL⟩, mL0, cA0, mA0, cM0, mM0, dM0, cC0, mC0, hch, hz, hw2⟩ := id h
  have hL' := hL
  obtain ⟨hC, hX, hPl, hWo, hB1, hB2, hAl, hO, hMk⟩ := hL'
  obtain ⟨cT0, cP0, cW0, dT0, dP0, dW0⟩ := id cA0
  obtain ⟨mT0, mP0, mW0, -, -, -⟩ := id mA0
  unfold LV27
  refine LFg h.z7 h.z8 (c_trust (x := a1) hC hMk cM0 dM0 (by omega)) (m_trust (x := a1) mL0 mM0 dM0 (by omega)) ?_
  rintro ⟨r1, S1⟩ ⟨r2, S2⟩ ⟨e1, s1⟩ ⟨e2, iv2, s2, f2⟩
  dsimp only at e1 e2 s1 s2
  subst s1
  subst s2
  exact ⟨e1.trans e2.symm, (h.scr (A := fun _ => False) fQ.rf (fun a q => q.elim) f2 (by decide) (by decide)).rr⟩
theorem R_28 (h : RA b bm z wn K iv rv Km ivm rvm tp nt tx lk ns tl pa pb ins wd mb mf fg ch) (hN : 70000 < N) : zw (LV28 N MC MS b bm a1 a2 a3 a4 (K, iv, rv, lv) (Km, ivm, rvm, lvm) z) (fun t => RR b bm z wn t.1 t.2.1 ∧ t.2.2 = z) := by
  obtain ⟨⟨l1, l2, wa, hL⟩, mL0, cA0, mA0, cM0, mM0, dM0, cC0, mC0, hch, hz, hw2⟩ := id h
  have hL' := hL
  obtain ⟨hC, hX, hPl, hWo, hB1, hB2, hAl, hO, hMk⟩ := hL'
  obtain ⟨cT0, cP0, cW0, dT0, dP0, dW0⟩ := id cA0
  obtain ⟨mT0, mP0, mW0, -, -, -⟩ := id mA0
  unfold LV28
  refine LFg h.z7 h.z8 (c_heirs (x := a1) hC hMk cM0 dM0 (by omega)) (m_heirs (x := a1) mL0 mM0 dM0 (by omega)) ?_
  rintro ⟨r1, S1⟩ ⟨r2, S2⟩ ⟨e1, s1⟩ ⟨e2, iv2, s2, f2⟩
  dsimp only at e1 e2 s1 s2
  subst s1
  subst s2
  exact ⟨e1.trans e2.symm, (h.scr (A := fun _ => False) fQ.rf (fun a q => q.elim) f2 (by decide) (by decide)).rr⟩
theorem R_29 (h : RA b bm z wn K iv rv Km ivm rvm tp nt tx lk ns tl pa pb ins wd mb mf fg ch) (hN : 70000 < N) : zw (LV29 N MC MS b bm a1 a2 a3 a4 (K, iv, rv, lv) (Km, ivm, rvm, lvm) z) (fun t => RR b bm z wn t.1 t.2.1 ∧ t.2.2 = z) := by
  obtain ⟨⟨l1, l2, wa, hL⟩, mL0, cA0, mA0, cM0, mM0, dM0, cC0, mC0, hch, hz, hw2⟩ := id h
  have hL' := hL
  obtain ⟨hC, hX, hPl, hWo, hB1, hB2, hAl, hO, hMk⟩ := hL'
  obtain ⟨cT0, cP0, cW0, dT0, dP0, dW0⟩ := id cA0
  obtain ⟨mT0, mP0, mW0, -, -, -⟩ := id mA0
  unfold LV29
  refine LFg h.z7 h.z8 (c_count (x := a1) hC hX hPl hMk cT0 dT0 cP0 cM0 dM0 (by omega)) (m_count (x := a1) mL0 mT0 dT0 mP0 mM0 dM0 (by omega)) ?_
  intro p q e1 e2
  subst e1
  subst e2
  exact ⟨rfl, h.rr⟩
theorem R_16 (h : RA b bm z wn K iv rv Km ivm rvm tp nt tx lk ns tl pa pb ins wd mb mf fg ch) (hN : 70000 < N) : zw (LV16 N MC MS b bm a1 a2 a3 a4 (K, iv, rv, lv) (Km, ivm, rvm, lvm) z) (fun t => RR b bm z wn t.1 t.2.1 ∧ t.2.2 = z) := by
  obtain ⟨⟨l1, l2, wa, hL⟩, mL0, cA0, mA0, cM0, mM0, dM0, cC0, mC0, hch, hz, hw2⟩ := id h
  have hL' := hL
  obtain ⟨hC, hX, hPl, hWo, hB1, hB2, hAl, hO, hMk⟩ := hL'
  obtain ⟨cT0, cP0, cW0, dT0, dP0, dW0⟩ := id cA0
  obtain ⟨mT0, mP0, mW0, -, -, -⟩ := id mA0
  unfold LV16
  have hm : zw (fX8_change N (Km, ivm, rvm, lvm) bm a1 a2) (fun q => q = (spChange ch a1 a2, (Km, ivm, rvm, lvm))) := ⟨_, m_change mL0 mC0 (by omega), rfl⟩
  refine LFg h.z7 h.z8 (c_change (x := a1) (y := a2) hC hAl cC0 hch) hm ?_
  intro p q e1 e2
  subst e1
  subst e2
  exact ⟨rfl, h.rr⟩
end R2
