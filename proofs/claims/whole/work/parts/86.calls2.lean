/-! the calls that change something -/
section R3
variable {N b bm z wn : Nat} {K Km : Nat → Option (Nat × Nat)} {iv ivm iv' ivm' : Nat → Nat → Int32} {rv rvm : Nat → Nat → Option Nat} {lv lvm : Nat → Nat → Int64}
variable {tp : List Int32} {nt : Nat} {tx : Nat → List Int32} {lk : Nat → Bool} {ns : Nat} {tl : Nat → Nat} {pa : Nat → Int32} {pb : Nat → Nat} {ins : Nat → List Nat} {wd : Nat → Nat → Int32} {mb : Nat → Option Nat} {mf : Nat → Nat} {fg : Nat → Bool} {ch : List (Int32 × Int32 × Int32)} {a1 a2 a3 a4 : Int32} {MC MS : Nat}
theorem R_0 (h : RA b bm z wn K iv rv Km ivm rvm tp nt tx lk ns tl pa pb ins wd mb mf fg ch) (hN : 70000 < N) : zw (LV0 N MC MS b bm a1 a2 a3 a4 (K, iv, rv, lv) (Km, ivm, rvm, lvm) z) (fun t => RR b bm z wn t.1 t.2.1 ∧ t.2.2 = z) := by
  obtain ⟨⟨l1, l2, wa, hL⟩, mL0, cA0, mA0, cM0, mM0, dM0, cC0, mC0, hch, hz, hw2⟩ := id h
  have hL' := hL
  obtain ⟨hC, hX, hPl, hWo, hB1, hB2, hAl, hO, hMk⟩ := hL'
  obtain ⟨cT0, cP0, cW0, dT0, dP0, dW0⟩ := id cA0
  obtain ⟨mT0, mP0, mW0, -, -, -⟩ := id mA0
  unfold LV0
  refine LFg h.z7 h.z8 (c_feed (n := a1) (v := a2) hC hX cT0 dT0 (by omega)) (m_feed (n := a1) (v := a2) mL0 mT0 dT0 (by omega)) ?_
  rintro ⟨r1, S1⟩ ⟨r2, S2⟩ ⟨e1, iv1, s1, t1, f1⟩ ⟨e2, iv2, s2, t2, f2⟩
  dsimp only at e1 e2 s1 s2
  subst s1
  subst s2
  refine ⟨e1.trans e2.symm, RA.rr (tp := (spFeed tp a1 a2).2) (nt := nt) (tx := tx) (lk := lk) (ns := ns) (tl := tl) (pa := pa) (pb := pb) (ins := ins) (wd := wd) (mb := mb) (mf := mf) (fg := fg) (ch := ch) ⟨⟨l1, l2, wa, hL⟩, mL0, ⟨t1, cP0.fr f1 (fun a g1 g2 => by omega), cW0.fr f1 (fun a g1 g2 => by omega), dT0.feed, dP0, dW0⟩, ⟨t2, mP0.fr f2 (by decide) (by decide), mW0.fr f2 (by decide), dT0.feed, dP0, dW0⟩, cM0.fr f1 (fun a g1 g2 => by omega), mM0.fr f2 (by decide), dM0, cC0.fr f1 (fun a g1 g2 => by omega), mC0.fr f2 (by decide) (by decide), hch, hz, hw2⟩⟩
theorem R_1 (h : RA b bm z wn K iv rv Km ivm rvm tp nt tx lk ns tl pa pb ins wd mb mf fg ch) (hN : 70000 < N) : zw (LV1 N MC MS b bm a1 a2 a3 a4 (K, iv, rv, lv) (Km, ivm, rvm, lvm) z) (fun t => RR b bm z wn t.1 t.2.1 ∧ t.2.2 = z) := by
  obtain ⟨⟨l1, l2, wa, hL⟩, mL0, cA0, mA0, cM0, mM0, dM0, cC0, mC0, hch, hz, hw2⟩ := id h
  have hL' := hL
  obtain ⟨hC, hX, hPl, hWo, hB1, hB2, hAl, hO, hMk⟩ := hL'
  obtain ⟨cT0, cP0, cW0, dT0, dP0, dW0⟩ := id cA0
  obtain ⟨mT0, mP0, mW0, -, -, -⟩ := id mA0
  unfold LV1
  refine LFg h.z7 h.z8 (c_text hC hX cT0 dT0) (m_text mL0 mT0 dT0 (by omega)) ?_
  rintro ⟨r1, S1⟩ ⟨r2, S2⟩ ⟨iv1, s1, f1, c1⟩ ⟨iv2, s2, f2, c2⟩
  dsimp only at s1 s2 c1 c2
  subst s1
  subst s2
  by_cases hn : nt = 20
  · rw [if_pos hn] at c1 c2
    exact ⟨c1.1.trans c2.1.symm, RA.rr (tp := tp) (nt := nt) (tx := tx) (lk := lk) (ns := ns) (tl := tl) (pa := pa) (pb := pb) (ins := ins) (wd := wd) (mb := mb) (mf := mf) (fg := fg) (ch := ch) ⟨⟨l1, l2, wa, hL⟩, mL0, ⟨c1.2, cP0.fr f1 (fun a g1 g2 => by omega), cW0.fr f1 (fun a g1 g2 => by omega), dT0, dP0, dW0⟩, ⟨c2.2, mP0.fr f2 (by decide) (by decide), mW0.fr f2 (by decide), dT0, dP0, dW0⟩, cM0.fr f1 (fun a g1 g2 => by omega), mM0.fr f2 (by decide), dM0, cC0.fr f1 (fun a g1 g2 => by omega), mC0.fr f2 (by decide) (by decide), hch, hz, hw2⟩⟩
  · rw [if_neg hn] at c1 c2
    exact ⟨c1.1.trans c2.1.symm, RA.rr (tp := []) (nt := nt + 1) (tx := upT tx nt tp) (lk := lk) (ns := ns) (tl := tl) (pa := pa) (pb := pb) (ins := ins) (wd := wd) (mb := mb) (mf := mf) (fg := fg) (ch := ch) ⟨⟨l1, l2, wa, hL⟩, mL0, ⟨c1.2, cP0.fr f1 (fun a g1 g2 => by omega), cW0.fr f1 (fun a g1 g2 => by omega), dT0.text hn, dP0.more, dW0⟩, ⟨c2.2, mP0.fr f2 (by decide) (by decide), mW0.fr f2 (by decide), dT0.text hn, dP0.more, dW0⟩, cM0.fr f1 (fun a g1 g2 => by omega), mM0.fr f2 (by decide), dM0, cC0.fr f1 (fun a g1 g2 => by omega), mC0.fr f2 (by decide) (by decide), hch, hz, hw2⟩⟩
theorem R_2 (h : RA b bm z wn K iv rv Km ivm rvm tp nt tx lk ns tl pa pb ins wd mb mf fg ch) (hN : 70000 < N) : zw (LV2 N MC MS b bm a1 a2 a3 a4 (K, iv, rv, lv) (Km, ivm, rvm, lvm) z) (fun t => RR b bm z wn t.1 t.2.1 ∧ t.2.2 = z) := by
  obtain ⟨⟨l1, l2, wa, hL⟩, mL0, cA0, mA0, cM0, mM0, dM0, cC0, mC0, hch, hz, hw2⟩ := id h
  have hL' := hL
  obtain ⟨hC, hX, hPl, hWo, hB1, hB2, hAl, hO, hMk⟩ := hL'
  obtain ⟨cT0, cP0, cW0, dT0, dP0, dW0⟩ := id cA0
  obtain ⟨mT0, mP0, mW0, -, -, -⟩ := id mA0
  unfold LV2
  refine LFg h.z7 h.z8 (c_write (x := a1) hC hX cT0 dT0) (m_write (x := a1) mL0 mT0 dT0 (by omega)) ?_
  rintro ⟨r1, S1⟩ ⟨r2, S2⟩ ⟨iv1, s1, f1, c1⟩ ⟨iv2, s2, f2, c2⟩
  dsimp only at s1 s2 c1 c2
  subst s1
  subst s2
  by_cases hn : inR nt a1
  · rw [if_pos hn] at c1 c2
    exact ⟨c1.1.trans c2.1.symm, RA.rr (tp := []) (nt := nt) (tx := upT tx a1.toNatClampNeg tp) (lk := lk) (ns := ns) (tl := tl) (pa := pa) (pb := pb) (ins := ins) (wd := wd) (mb := mb) (mf := mf) (fg := fg) (ch := ch) ⟨⟨l1, l2, wa, hL⟩, mL0, ⟨c1.2, cP0.fr f1 (fun a g1 g2 => by omega), cW0.fr f1 (fun a g1 g2 => by omega), dT0.write, dP0, dW0⟩, ⟨c2.2, mP0.fr f2 (by decide) (by decide), mW0.fr f2 (by decide), dT0.write, dP0, dW0⟩, cM0.fr f1 (fun a g1 g2 => by omega), mM0.fr f2 (by decide), dM0, cC0.fr f1 (fun a g1 g2 => by omega), mC0.fr f2 (by decide) (by decide), hch, hz, hw2⟩⟩
  · rw [if_neg hn] at c1 c2
    exact ⟨c1.1.trans c2.1.symm, RA.rr (tp := tp) (nt := nt) (tx := tx) (lk := lk) (ns := ns) (tl := tl) (pa := pa) (pb := pb) (ins := ins) (wd := wd) (mb := mb) (mf := mf) (fg := fg) (ch := ch) ⟨⟨l1, l2, wa, hL⟩, mL0, ⟨c1.2, cP0.fr f1 (fun a g1 g2 => by omega), cW0.fr f1 (fun a g1 g2 => by omega), dT0, dP0, dW0⟩, ⟨c2.2, mP0.fr f2 (by decide) (by decide), mW0.fr f2 (by decide), dT0, dP0, dW0⟩, cM0.fr f1 (fun a g1 g2 => by omega), mM0.fr f2 (by decide), dM0, cC0.fr f1 (fun a g1 g2 => by omega), mC0.fr f2 (by decide) (by decide), hch, hz, hw2⟩⟩
theorem R_3 (h : RA b bm z wn K iv rv Km ivm rvm tp nt tx lk ns tl pa pb ins wd mb mf fg ch) (hN : 70000 < N) : zw (LV3 N MC MS b bm a1 a2 a3 a4 (K, iv, rv, lv) (Km, ivm, rvm, lvm) z) (fun t => RR b bm z wn t.1 t.2.1 ∧ t.2.2 = z) := by
  obtain ⟨⟨l1, l2, wa, hL⟩, mL0, cA0, mA0, cM0, mM0, dM0, cC0, mC0, hch, hz, hw2⟩ := id h
  have hL' := hL
  obtain ⟨hC, hX, hPl, hWo, hB1, hB2, hAl, hO, hMk⟩ := hL'
  obtain ⟨cT0, cP0, cW0, dT0, dP0, dW0⟩ := id cA0
  obtain ⟨mT0, mP0, mW0, -, -, -⟩ := id mA0
  unfold LV3
  refine LFg h.z7 h.z8 (c_lack (x := a1) (y := a2) hC hX cT0 dT0) (m_lack (x := a1) (y := a2) mL0 mT0 dT0) ?_
  rintro ⟨r1, S1⟩ ⟨r2, S2⟩ ⟨iv1, s1, f1, c1⟩ ⟨iv2, s2, f2, c2⟩
  dsimp only at s1 s2 c1 c2
  subst s1
  subst s2
  by_cases hn : inR nt a1 ∧ inR 2 a2
  · rw [if_pos hn] at c1 c2
    have hlt : a1.toNatClampNeg < nt := by
      have := dT0.2.1
      obtain ⟨k, hk, e⟩ := hn.1.at (by omega)
      rw [e, nI_clamp (by omega)]; exact hk
    exact ⟨c1.1.trans c2.1.symm, RA.rr (tp := tp) (nt := nt) (tx := tx) (lk := upB lk a1.toNatClampNeg (decide (a2 = 1))) (ns := ns) (tl := tl) (pa := pa) (pb := pb) (ins := ins) (wd := wd) (mb := mb) (mf := mf) (fg := fg) (ch := ch) ⟨⟨l1, l2, wa, hL⟩, mL0, ⟨c1.2, cP0.fr f1 (fun a g1 g2 => by omega), cW0.fr f1 (fun a g1 g2 => by omega), dT0.lack hlt, dP0, dW0⟩, ⟨c2.2, mP0.fr f2 (by decide) (by decide), mW0.fr f2 (by decide), dT0.lack hlt, dP0, dW0⟩, cM0.fr f1 (fun a g1 g2 => by omega), mM0.fr f2 (by decide), dM0, cC0.fr f1 (fun a g1 g2 => by omega), mC0.fr f2 (by decide) (by decide), hch, hz, hw2⟩⟩
  · rw [if_neg hn] at c1 c2
    exact ⟨c1.1.trans c2.1.symm, RA.rr (tp := tp) (nt := nt) (tx := tx) (lk := lk) (ns := ns) (tl := tl) (pa := pa) (pb := pb) (ins := ins) (wd := wd) (mb := mb) (mf := mf) (fg := fg) (ch := ch) ⟨⟨l1, l2, wa, hL⟩, mL0, ⟨c1.2, cP0.fr f1 (fun a g1 g2 => by omega), cW0.fr f1 (fun a g1 g2 => by omega), dT0, dP0, dW0⟩, ⟨c2.2, mP0.fr f2 (by decide) (by decide), mW0.fr f2 (by decide), dT0, dP0, dW0⟩, cM0.fr f1 (fun a g1 g2 => by omega), mM0.fr f2 (by decide), dM0, cC0.fr f1 (fun a g1 g2 => by omega), mC0.fr f2 (by decide) (by decide), hch, hz, hw2⟩⟩
theorem R_4 (h : RA b bm z wn K iv rv Km ivm rvm tp nt tx lk ns tl pa pb ins wd mb mf fg ch) (hN : 70000 < N) : zw (LV4 N MC MS b bm a1 a2 a3 a4 (K, iv, rv, lv) (Km, ivm, rvm, lvm) z) (fun t => RR b bm z wn t.1 t.2.1 ∧ t.2.2 = z) := by
  obtain ⟨⟨l1, l2, wa, hL⟩, mL0, cA0, mA0, cM0, mM0, dM0, cC0, mC0, hch, hz, hw2⟩ := id h
  have hL' := hL
  obtain ⟨hC, hX, hPl, hWo, hB1, hB2, hAl, hO, hMk⟩ := hL'
  obtain ⟨cT0, cP0, cW0, dT0, dP0, dW0⟩ := id cA0
  obtain ⟨mT0, mP0, mW0, -, -, -⟩ := id mA0
  unfold LV4
  refine LFg h.z7 h.z8 (c_word (x := a1) (y := a2) (v := a3) hC hWo cW0) (m_word (x := a1) (y := a2) (v := a3) mL0 mW0) ?_
  rintro ⟨r1, S1⟩ ⟨r2, S2⟩ ⟨iv1, s1, f1, c1⟩ ⟨iv2, s2, f2, c2⟩
  dsimp only at s1 s2 c1 c2
  subst s1
  subst s2
  by_cases hn : inR 8 a1 ∧ inR 8 a2 ∧ inR 256 a3
  · rw [if_pos hn] at c1 c2
    exact ⟨c1.1.trans c2.1.symm, RA.rr (tp := tp) (nt := nt) (tx := tx) (lk := lk) (ns := ns) (tl := tl) (pa := pa) (pb := pb) (ins := ins) (wd := zu wd a1.toNatClampNeg a2.toNatClampNeg a3) (mb := mb) (mf := mf) (fg := fg) (ch := ch) ⟨⟨l1, l2, wa, hL⟩, mL0, ⟨cT0.fr f1 (fun a g1 g2 => by omega) dT0.2.1, cP0.fr f1 (fun a g1 g2 => by omega), c1.2, dT0, dP0, dW0.word (isB_in hn.2.2)⟩, ⟨mT0.fr f2 (by decide) (by decide), mP0.fr f2 (by decide) (by decide), c2.2, dT0, dP0, dW0.word (isB_in hn.2.2)⟩, cM0.fr f1 (fun a g1 g2 => by omega), mM0.fr f2 (by decide), dM0, cC0.fr f1 (fun a g1 g2 => by omega), mC0.fr f2 (by decide) (by decide), hch, hz, hw2⟩⟩
  · rw [if_neg hn] at c1 c2
    exact ⟨c1.1.trans c2.1.symm, RA.rr (tp := tp) (nt := nt) (tx := tx) (lk := lk) (ns := ns) (tl := tl) (pa := pa) (pb := pb) (ins := ins) (wd := wd) (mb := mb) (mf := mf) (fg := fg) (ch := ch) ⟨⟨l1, l2, wa, hL⟩, mL0, ⟨cT0.fr f1 (fun a g1 g2 => by omega) dT0.2.1, cP0.fr f1 (fun a g1 g2 => by omega), c1.2, dT0, dP0, dW0⟩, ⟨mT0.fr f2 (by decide) (by decide), mP0.fr f2 (by decide) (by decide), c2.2, dT0, dP0, dW0⟩, cM0.fr f1 (fun a g1 g2 => by omega), mM0.fr f2 (by decide), dM0, cC0.fr f1 (fun a g1 g2 => by omega), mC0.fr f2 (by decide) (by decide), hch, hz, hw2⟩⟩
theorem R_5 (h : RA b bm z wn K iv rv Km ivm rvm tp nt tx lk ns tl pa pb ins wd mb mf fg ch) (hN : 70000 < N) : zw (LV5 N MC MS b bm a1 a2 a3 a4 (K, iv, rv, lv) (Km, ivm, rvm, lvm) z) (fun t => RR b bm z wn t.1 t.2.1 ∧ t.2.2 = z) := by
  obtain ⟨⟨l1, l2, wa, hL⟩, mL0, cA0, mA0, cM0, mM0, dM0, cC0, mC0, hch, hz, hw2⟩ := id h
  have hL' := hL
  obtain ⟨hC, hX, hPl, hWo, hB1, hB2, hAl, hO, hMk⟩ := hL'
  obtain ⟨cT0, cP0, cW0, dT0, dP0, dW0⟩ := id cA0
  obtain ⟨mT0, mP0, mW0, -, -, -⟩ := id mA0
  unfold LV5
  refine LFg h.z7 h.z8 (c_copy (x := a1) (y := a2) hC hWo cW0 (by omega)) (m_copy (x := a1) (y := a2) mL0 mW0 (by omega)) ?_
  rintro ⟨r1, S1⟩ ⟨r2, S2⟩ ⟨iv1, s1, f1, c1⟩ ⟨iv2, s2, f2, c2⟩
  dsimp only at s1 s2 c1 c2
  subst s1
  subst s2
  by_cases hn : inR 8 a1 ∧ inR 8 a2
  · rw [if_pos hn] at c1 c2
    have hlt : a1.toNatClampNeg < 8 := by
      obtain ⟨k, hk, e⟩ := hn.1.at (by decide)
      rw [e, nI_clamp (by omega)]; exact hk
    exact ⟨c1.1.trans c2.1.symm, RA.rr (tp := tp) (nt := nt) (tx := tx) (lk := lk) (ns := ns) (tl := tl) (pa := pa) (pb := pb) (ins := ins) (wd := cpW wd a1.toNatClampNeg a2.toNatClampNeg) (mb := mb) (mf := mf) (fg := fg) (ch := ch) ⟨⟨l1, l2, wa, hL⟩, mL0, ⟨cT0.fr f1 (fun a g1 g2 => by omega) dT0.2.1, cP0.fr f1 (fun a g1 g2 => by omega), c1.2, dT0, dP0, dW0.copy hlt⟩, ⟨mT0.fr f2 (by decide) (by decide), mP0.fr f2 (by decide) (by decide), c2.2, dT0, dP0, dW0.copy hlt⟩, cM0.fr f1 (fun a g1 g2 => by omega), mM0.fr f2 (by decide), dM0, cC0.fr f1 (fun a g1 g2 => by omega), mC0.fr f2 (by decide) (by decide), hch, hz, hw2⟩⟩
  · rw [if_neg hn] at c1 c2
    exact ⟨c1.1.trans c2.1.symm, RA.rr (tp := tp) (nt := nt) (tx := tx) (lk := lk) (ns := ns) (tl := tl) (pa := pa) (pb := pb) (ins := ins) (wd := wd) (mb := mb) (mf := mf) (fg := fg) (ch := ch) ⟨⟨l1, l2, wa, hL⟩, mL0, ⟨cT0.fr f1 (fun a g1 g2 => by omega) dT0.2.1, cP0.fr f1 (fun a g1 g2 => by omega), c1.2, dT0, dP0, dW0⟩, ⟨mT0.fr f2 (by decide) (by decide), mP0.fr f2 (by decide) (by decide), c2.2, dT0, dP0, dW0⟩, cM0.fr f1 (fun a g1 g2 => by omega), mM0.fr f2 (by decide), dM0, cC0.fr f1 (fun a g1 g2 => by omega), mC0.fr f2 (by decide) (by decide), hch, hz, hw2⟩⟩
theorem R_6 (h : RA b bm z wn K iv rv Km ivm rvm tp nt tx lk ns tl pa pb ins wd mb mf fg ch) (hN : 70000 < N) : zw (LV6 N MC MS b bm a1 a2 a3 a4 (K, iv, rv, lv) (Km, ivm, rvm, lvm) z) (fun t => RR b bm z wn t.1 t.2.1 ∧ t.2.2 = z) := by
  obtain ⟨⟨l1, l2, wa, hL⟩, mL0, cA0, mA0, cM0, mM0, dM0, cC0, mC0, hch, hz, hw2⟩ := id h
  have hL' := hL
  obtain ⟨hC, hX, hPl, hWo, hB1, hB2, hAl, hO, hMk⟩ := hL'
  obtain ⟨cT0, cP0, cW0, dT0, dP0, dW0⟩ := id cA0
  obtain ⟨mT0, mP0, mW0, -, -, -⟩ := id mA0
  unfold LV6
  refine LFg h.z7 h.z8 (c_step (x := a1) (y := a2) (v := a3) hC hPl cP0 dP0 dT0.2.1) (m_step (x := a1) (y := a2) (v := a3) mL0 mP0 dP0) ?_
  rintro ⟨r1, S1⟩ ⟨r2, S2⟩ ⟨iv1, s1, f1, c1⟩ ⟨iv2, s2, f2, c2⟩
  dsimp only at s1 s2 c1 c2
  subst s1
  subst s2
  by_cases hn : inR 8 a1 ∧ inR 256 a2 ∧ inR 8 a3
  · rw [if_pos hn] at c1 c2
    by_cases hf : ns = 24
    · rw [if_pos hf] at c1 c2
      exact ⟨c1.1.trans c2.1.symm, RA.rr (tp := tp) (nt := nt) (tx := tx) (lk := lk) (ns := ns) (tl := tl) (pa := pa) (pb := pb) (ins := ins) (wd := wd) (mb := mb) (mf := mf) (fg := fg) (ch := ch) ⟨⟨l1, l2, wa, hL⟩, mL0, ⟨cT0.fr f1 (fun a g1 g2 => by omega) dT0.2.1, c1.2, cW0.fr f1 (fun a g1 g2 => by omega), dT0, dP0, dW0⟩, ⟨mT0.fr f2 (by decide) (by decide), c2.2, mW0.fr f2 (by decide), dT0, dP0, dW0⟩, cM0.fr f1 (fun a g1 g2 => by omega), mM0.fr f2 (by decide), dM0, cC0.fr f1 (fun a g1 g2 => by omega), mC0.fr f2 (by decide) (by decide), hch, hz, hw2⟩⟩
    · rw [if_neg hf] at c1 c2
      have h1 : a1.toNatClampNeg < 8 := by
        obtain ⟨k, hk, e⟩ := hn.1.at (by decide)
        rw [e, nI_clamp (by omega)]; exact hk
      have h3 : a3.toNatClampNeg < 8 := by
        obtain ⟨k, hk, e⟩ := hn.2.2.at (by decide)
        rw [e, nI_clamp (by omega)]; exact hk
      have hd := dP0.step hf h1 (isB_in hn.2.1) h3
      exact ⟨c1.1.trans c2.1.symm, RA.rr (tp := tp) (nt := nt) (tx := tx) (lk := lk) (ns := ns + 1) (tl := upB tl ns a1.toNatClampNeg) (pa := upB pa ns a2) (pb := upB pb ns a3.toNatClampNeg) (ins := upB ins ns []) (wd := wd) (mb := mb) (mf := mf) (fg := fg) (ch := ch) ⟨⟨l1, l2, wa, hL⟩, mL0, ⟨cT0.fr f1 (fun a g1 g2 => by omega) dT0.2.1, c1.2, cW0.fr f1 (fun a g1 g2 => by omega), dT0, hd, dW0⟩, ⟨mT0.fr f2 (by decide) (by decide), c2.2, mW0.fr f2 (by decide), dT0, hd, dW0⟩, cM0.fr f1 (fun a g1 g2 => by omega), mM0.fr f2 (by decide), dM0, cC0.fr f1 (fun a g1 g2 => by omega), mC0.fr f2 (by decide) (by decide), hch, hz, hw2⟩⟩
  · rw [if_neg hn] at c1 c2
    exact ⟨c1.1.trans c2.1.symm, RA.rr (tp := tp) (nt := nt) (tx := tx) (lk := lk) (ns := ns) (tl := tl) (pa := pa) (pb := pb) (ins := ins) (wd := wd) (mb := mb) (mf := mf) (fg := fg) (ch := ch) ⟨⟨l1, l2, wa, hL⟩, mL0, ⟨cT0.fr f1 (fun a g1 g2 => by omega) dT0.2.1, c1.2, cW0.fr f1 (fun a g1 g2 => by omega), dT0, dP0, dW0⟩, ⟨mT0.fr f2 (by decide) (by decide), c2.2, mW0.fr f2 (by decide), dT0, dP0, dW0⟩, cM0.fr f1 (fun a g1 g2 => by omega), mM0.fr f2 (by decide), dM0, cC0.fr f1 (fun a g1 g2 => by omega), mC0.fr f2 (by decide) (by decide), hch, hz, hw2⟩⟩
theorem R_7 (h : RA b bm z wn K iv rv Km ivm rvm tp nt tx lk ns tl pa pb ins wd mb mf fg ch) (hN : 70000 < N) : zw (LV7 N MC MS b bm a1 a2 a3 a4 (K, iv, rv, lv) (Km, ivm, rvm, lvm) z) (fun t => RR b bm z wn t.1 t.2.1 ∧ t.2.2 = z) := by
  obtain ⟨⟨l1, l2, wa, hL⟩, mL0, cA0, mA0, cM0, mM0, dM0, cC0, mC0, hch, hz, hw2⟩ := id h
  have hL' := hL
  obtain ⟨hC, hX, hPl, hWo, hB1, hB2, hAl, hO, hMk⟩ := hL'
  obtain ⟨cT0, cP0, cW0, dT0, dP0, dW0⟩ := id cA0
  obtain ⟨mT0, mP0, mW0, -, -, -⟩ := id mA0
  unfold LV7
  refine LFg h.z7 h.z8 (c_need (x := a1) (y := a2) hC hX hPl cT0 dT0 cP0 dP0) (m_need (x := a1) (y := a2) mL0 mT0 dT0 mP0 dP0 (by omega)) ?_
  rintro ⟨r1, S1⟩ ⟨r2, S2⟩ ⟨iv1, s1, f1, n1, p1⟩ ⟨iv2, s2, f2, n2, p2⟩
  dsimp only at s1 s2 n1 p1 n2 p2
  subst s1
  subst s2
  have same : r1 = r2 → cP b iv1 ns tl pa pb ins → mP bm iv2 ns tl pa pb ins → r1 = r2 ∧ RR b bm z wn (K, iv1, rv, lv) (Km, iv2, rvm, lvm) := fun e q1 q2 => ⟨e, RA.rr (tp := tp) (nt := nt) (tx := tx) (lk := lk) (ns := ns) (tl := tl) (pa := pa) (pb := pb) (ins := ins) (wd := wd) (mb := mb) (mf := mf) (fg := fg) (ch := ch) ⟨⟨l1, l2, wa, hL⟩, mL0, ⟨cT0.fr f1 (fun a g1 g2 => by omega) dT0.2.1, q1, cW0.fr f1 (fun a g1 g2 => by omega), dT0, dP0, dW0⟩, ⟨mT0.fr f2 (by decide) (by decide), q2, mW0.fr f2 (by decide), dT0, dP0, dW0⟩, cM0.fr f1 (fun a g1 g2 => by omega), mM0.fr f2 (by decide), dM0, cC0.fr f1 (fun a g1 g2 => by omega), mC0.fr f2 (by decide) (by decide), hch, hz, hw2⟩⟩
  by_cases hn : inR ns a1 ∧ inpOk nt a1.toNatClampNeg a2
  · obtain ⟨t1, u1⟩ := p1 hn
    obtain ⟨t2, u2⟩ := p2 hn
    by_cases ht : isTk ns ins a1.toNatClampNeg
    · exact same ((t1 ht).1.trans (t2 ht).1.symm) (t1 ht).2 (t2 ht).2
    · obtain ⟨v1, w1⟩ := u1 ht
      obtain ⟨v2, w2⟩ := u2 ht
      by_cases h4 : (ins a1.toNatClampNeg).length = 4
      · exact same ((v1 h4).1.trans (v2 h4).1.symm) (v1 h4).2 (v2 h4).2
      · have hns := dP0.1
        have hnt := dT0.2.1
        obtain ⟨s, hs, e⟩ := hn.1.at (by omega)
        have ec : a1.toNatClampNeg = s := by rw [e]; exact nI_clamp (by omega)
        obtain ⟨i, ei, hi⟩ := hn.2.at hnt (by omega)
        have eci : a2.toNatClampNeg = i := by rw [ei]; exact nI_clamp (by omega)
        have hd := dP0.need (s := a1.toNatClampNeg) (i := a2.toNatClampNeg) (by omega) h4 (by rw [eci]; exact hi)
        exact ⟨(w1 h4).1.trans (w2 h4).1.symm, RA.rr (tp := tp) (nt := nt) (tx := tx) (lk := lk) (ns := ns) (tl := tl) (pa := pa) (pb := pb) (ins := upB ins a1.toNatClampNeg (ins a1.toNatClampNeg ++ [a2.toNatClampNeg])) (wd := wd) (mb := mb) (mf := mf) (fg := fg) (ch := ch) ⟨⟨l1, l2, wa, hL⟩, mL0, ⟨cT0.fr f1 (fun a g1 g2 => by omega) dT0.2.1, (w1 h4).2, cW0.fr f1 (fun a g1 g2 => by omega), dT0, hd, dW0⟩, ⟨mT0.fr f2 (by decide) (by decide), (w2 h4).2, mW0.fr f2 (by decide), dT0, hd, dW0⟩, cM0.fr f1 (fun a g1 g2 => by omega), mM0.fr f2 (by decide), dM0, cC0.fr f1 (fun a g1 g2 => by omega), mC0.fr f2 (by decide) (by decide), hch, hz, hw2⟩⟩
  · exact same ((n1 hn).1.trans (n2 hn).1.symm) (n1 hn).2 (n2 hn).2
theorem R_15 (h : RA b bm z wn K iv rv Km ivm rvm tp nt tx lk ns tl pa pb ins wd mb mf fg ch) (hN : 70000 < N) : zw (LV15 N MC MS b bm a1 a2 a3 a4 (K, iv, rv, lv) (Km, ivm, rvm, lvm) z) (fun t => RR b bm z wn t.1 t.2.1 ∧ t.2.2 = z) := by
  obtain ⟨⟨l1, l2, wa, hL⟩, mL0, cA0, mA0, cM0, mM0, dM0, cC0, mC0, hch, hz, hw2⟩ := id h
  have hL' := hL
  obtain ⟨hC, hX, hPl, hWo, hB1, hB2, hAl, hO, hMk⟩ := hL'
  obtain ⟨cT0, cP0, cW0, dT0, dP0, dW0⟩ := id cA0
  obtain ⟨mT0, mP0, mW0, -, -, -⟩ := id mA0
  unfold LV15
  refine LFg h.z7 h.z8 (c_changes (x := a1) (y := a2) (v := a3) hL cA0 cC0 (by omega)) (m_changes (x := a1) (y := a2) (v := a3) mL0 mA0 mC0 (by omega)) ?_
  rintro ⟨r1, S1⟩ ⟨r2, S2⟩ ⟨iv1, rv1, k1, k2, ch1, s1, hL1, f1, c1, p1, n1⟩ ⟨iv2, ch2, s2, f2, c2, p2, n2⟩
  dsimp only at s1 s2 p1 n1 p2 n2
  subst s1
  subst s2
  have key : r1 = r2 ∧ ch1 = ch2 := by
    by_cases hr : inR 8 a1 ∧ inR 8 a2 ∧ inR ns a3
    · exact (p1 hr).one (p2 hr)
    · exact ⟨(n1 hr).1.trans (n2 hr).1.symm, (n1 hr).2.trans (n2 hr).2.symm⟩
  have hlen : ch1.length ≤ 200 := by
    by_cases hr : inR 8 a1 ∧ inR 8 a2 ∧ inR ns a3
    · have hns := dP0.1
      obtain ⟨p, hp, ep⟩ := hr.1.at (by decide)
      obtain ⟨q, hq, eq⟩ := hr.2.1.at (by decide)
      obtain ⟨s, hs, es⟩ := hr.2.2.at (by omega)
      have ecp : a1.toNatClampNeg = p := by rw [ep]; exact nI_clamp (by omega)
      have ecq : a2.toNatClampNeg = q := by rw [eq]; exact nI_clamp (by omega)
      have ecs : a3.toNatClampNeg = s := by rw [es]; exact nI_clamp (by omega)
      have hp1 := p1 hr
      rw [ecp, ecq, ecs] at hp1
      cases o1 : thg tx lk tl pa pb ins (wd p) s with
      | none =>
        rw [o1] at hp1
        rw [(hp1.1 rfl).2]; exact hch
      | some X =>
        cases o2 : thg tx lk tl pa pb ins (wd q) s with
        | none =>
          rw [o1, o2] at hp1
          rw [(hp1.1 rfl).2]; exact hch
        | some Y =>
          rw [o1, o2] at hp1
          rw [(hp1.2 _ rfl).2]
          exact chg_len (cthg_good cA0 (fun w hw => dW0 p w hp hw) hs o1).1 (cthg_good cA0 (fun w hw => dW0 q w hq hw) hs o2).1
    · rw [(n1 hr).2]; exact hch
  obtain ⟨e1, e2⟩ := key
  subst e2
  exact ⟨e1, RA.rr (tp := tp) (nt := nt) (tx := tx) (lk := lk) (ns := ns) (tl := tl) (pa := pa) (pb := pb) (ins := ins) (wd := wd) (mb := mb) (mf := mf) (fg := fg) (ch := ch1) ⟨⟨k1, k2, wa, hL1⟩, mL0, cA0.fr f1 (fun a g1 g2 => by omega), mA0.fr f2 (by decide) (by decide), cM0.fr f1 (fun a g1 g2 => by omega), mM0.fr f2 (by decide), dM0, c1, c2, hlen, hz, hw2⟩⟩
theorem R_22 (h : RA b bm z wn K iv rv Km ivm rvm tp nt tx lk ns tl pa pb ins wd mb mf fg ch) (hN : 70000 < N) : zw (LV22 N MC MS b bm a1 a2 a3 a4 (K, iv, rv, lv) (Km, ivm, rvm, lvm) z) (fun t => RR b bm z wn t.1 t.2.1 ∧ t.2.2 = z) := by
  obtain ⟨⟨l1, l2, wa, hL⟩, mL0, cA0, mA0, cM0, mM0, dM0, cC0, mC0, hch, hz, hw2⟩ := id h
  have hL' := hL
  obtain ⟨hC, hX, hPl, hWo, hB1, hB2, hAl, hO, hMk⟩ := hL'
  obtain ⟨cT0, cP0, cW0, dT0, dP0, dW0⟩ := id cA0
  obtain ⟨mT0, mP0, mW0, -, -, -⟩ := id mA0
  unfold LV22
  refine LFg h.z7 h.z8 (c_maker (x := a1) (y := a2) (t := a3) hC hX hMk cT0 dT0 cM0) (m_maker (x := a1) (y := a2) (t := a3) mL0 mT0 dT0 mM0) ?_
  rintro ⟨r1, S1⟩ ⟨r2, S2⟩ ⟨iv1, s1, f1, p1, n1⟩ ⟨iv2, s2, f2, p2, n2⟩
  dsimp only at s1 s2 p1 n1 p2 n2
  subst s1
  subst s2
  by_cases hn : mkOk nt a1 a2 a3
  · exact ⟨(p1 hn).1.trans (p2 hn).1.symm, RA.rr (tp := tp) (nt := nt) (tx := tx) (lk := lk) (ns := ns) (tl := tl) (pa := pa) (pb := pb) (ins := ins) (wd := wd) (mb := upB mb a1.toNatClampNeg (mkBy a2)) (mf := upB mf a1.toNatClampNeg (mkFr a2 a3)) (fg := fg) (ch := ch) ⟨⟨l1, l2, wa, hL⟩, mL0, cA0.fr f1 (fun a g1 g2 => by omega), mA0.fr f2 (by decide) (by decide), (p1 hn).2, (p2 hn).2, dM0.maker dT0.2.1 hn, cC0.fr f1 (fun a g1 g2 => by omega), mC0.fr f2 (by decide) (by decide), hch, hz, hw2⟩⟩
  · exact ⟨(n1 hn).1.trans (n2 hn).1.symm, RA.rr (tp := tp) (nt := nt) (tx := tx) (lk := lk) (ns := ns) (tl := tl) (pa := pa) (pb := pb) (ins := ins) (wd := wd) (mb := mb) (mf := mf) (fg := fg) (ch := ch) ⟨⟨l1, l2, wa, hL⟩, mL0, cA0.fr f1 (fun a g1 g2 => by omega), mA0.fr f2 (by decide) (by decide), (n1 hn).2, (n2 hn).2, dM0, cC0.fr f1 (fun a g1 g2 => by omega), mC0.fr f2 (by decide) (by decide), hch, hz, hw2⟩⟩
theorem R_26 (h : RA b bm z wn K iv rv Km ivm rvm tp nt tx lk ns tl pa pb ins wd mb mf fg ch) (hN : 70000 < N) : zw (LV26 N MC MS b bm a1 a2 a3 a4 (K, iv, rv, lv) (Km, ivm, rvm, lvm) z) (fun t => RR b bm z wn t.1 t.2.1 ∧ t.2.2 = z) := by
  obtain ⟨⟨l1, l2, wa, hL⟩, mL0, cA0, mA0, cM0, mM0, dM0, cC0, mC0, hch, hz, hw2⟩ := id h
  have hL' := hL
  obtain ⟨hC, hX, hPl, hWo, hB1, hB2, hAl, hO, hMk⟩ := hL'
  obtain ⟨cT0, cP0, cW0, dT0, dP0, dW0⟩ := id cA0
  obtain ⟨mT0, mP0, mW0, -, -, -⟩ := id mA0
  unfold LV26
  refine LFg h.z7 h.z8 (c_forge (x := a1) (y := a2) hC hMk cM0) (m_forge (x := a1) (y := a2) mL0 mM0) ?_
  rintro ⟨r1, S1⟩ ⟨r2, S2⟩ ⟨iv1, s1, f1, p1, n1⟩ ⟨iv2, s2, f2, p2, n2⟩
  dsimp only at s1 s2 p1 n1 p2 n2
  subst s1
  subst s2
  by_cases hn : inR 30 a1 ∧ inR 2 a2
  · exact ⟨(p1 hn).1.trans (p2 hn).1.symm, RA.rr (tp := tp) (nt := nt) (tx := tx) (lk := lk) (ns := ns) (tl := tl) (pa := pa) (pb := pb) (ins := ins) (wd := wd) (mb := mb) (mf := mf) (fg := upB fg a1.toNatClampNeg (decide (a2 = 1))) (ch := ch) ⟨⟨l1, l2, wa, hL⟩, mL0, cA0.fr f1 (fun a g1 g2 => by omega), mA0.fr f2 (by decide) (by decide), (p1 hn).2, (p2 hn).2, dM0, cC0.fr f1 (fun a g1 g2 => by omega), mC0.fr f2 (by decide) (by decide), hch, hz, hw2⟩⟩
  · exact ⟨(n1 hn).1.trans (n2 hn).1.symm, RA.rr (tp := tp) (nt := nt) (tx := tx) (lk := lk) (ns := ns) (tl := tl) (pa := pa) (pb := pb) (ins := ins) (wd := wd) (mb := mb) (mf := mf) (fg := fg) (ch := ch) ⟨⟨l1, l2, wa, hL⟩, mL0, cA0.fr f1 (fun a g1 g2 => by omega), mA0.fr f2 (by decide) (by decide), (n1 hn).2, (n2 hn).2, dM0, cC0.fr f1 (fun a g1 g2 => by omega), mC0.fr f2 (by decide) (by decide), hch, hz, hw2⟩⟩
theorem R_12 (h : RA b bm z wn K iv rv Km ivm rvm tp nt tx lk ns tl pa pb ins wd mb mf fg ch) (hN : 70000 < N) : ∃ MC MS wn', zw (LV12 N MC MS b bm a1 a2 a3 a4 (K, iv, rv, lv) (Km, ivm, rvm, lvm) z) (fun t => RR b bm t.2.2 wn' t.1 t.2.1) ∧ MC ≤ 1 ∧ MS + 2 * wn ≤ 2 * wn' := by
  obtain ⟨⟨l1, l2, wa, hL⟩, mL0, cA0, mA0, cM0, mM0, dM0, cC0, mC0, hch, hz, hw2⟩ := id h
  obtain ⟨MC, MS, wa', wn', hc, hw3, h1, h2⟩ := c_orders (x := a1) (lv := lv) hL cA0.2.1 cA0.2.2.2.2.1 cA0.2.2.2.1.2.1 hz hw2 hN
  refine ⟨MC, MS, wn', ?_, h1, h2⟩
  unfold LV12
  refine zw.e h.z7 ?_
  obtain ⟨⟨r1, S1, z1⟩, e, hp⟩ := hc
  rw [e]
  show zw ((zrc (Km, ivm, rvm, lvm) bm 8).bind fun _ => zb2 (fX8_orders N (Km, ivm, rvm, lvm) bm a1) fun r2 Sm => if r1 = r2 then some (S1, Sm, z1) else none) _
  refine zw.e h.z8 ?_
  refine zw.c2 (m_orders (x := a1) mL0 mA0 hN) ?_
  rintro r2 S2 ⟨⟨p2, n2⟩, iv2, lv2, s2, f2⟩
  obtain ⟨⟨p1, n1⟩, K1, iv1, rv1, lv1, s1, hL1, f1, hzz⟩ := hp
  dsimp only at s1 s2 p1 n1 p2 n2 hzz
  subst s1
  subst s2
  have e1 : r1 = r2 := by
    by_cases hr : inR ns a1
    · exact (p1 hr).one (p2 hr)
    · rw [n1 hr, n2 hr]
  refine zw.t e1 (zw.s ?_)
  exact RA.rr (tp := tp) (nt := nt) (tx := tx) (lk := lk) (ns := ns) (tl := tl) (pa := pa) (pb := pb) (ins := ins) (wd := wd) (mb := mb) (mf := mf) (fg := fg) (ch := ch) ⟨⟨l1, l2, wa', hL1⟩, mL0, cA0.fr f1 (fun a g1 g2 => by omega), mA0.fr f2 (by decide) (by decide), cM0.fr f1 (fun a g1 g2 => by omega), mM0.fr f2 (by decide), dM0, cC0.fr f1 (fun a g1 g2 => by omega), mC0.fr f2 (by decide) (by decide), hch, by show b + 183 ≤ z1; omega, hw3⟩
end R3
