/-! the class: a build makes its steps -/
section C5
variable {N b B : Nat} {K : Nat → Option (Nat × Nat)} {iv : Nat → Nat → Int32} {rv : Nat → Nat → Option Nat} {lv : Nat → Nat → Int64} {S : zS}
variable {tp : List Int32} {nt : Nat} {tx : Nat → List Int32} {lk : Nat → Bool} {ns : Nat} {tl : Nat → Nat} {pa : Nat → Int32} {pb : Nat → Nat} {ins : Nat → List Nat} {h : Nat → Int32}
theorem head_getD {Ls : List (List Int32)} : Ls.headD [] = Ls.getD 0 [] := by cases Ls <;> rfl
theorem last_getD {Ls : List (List Int32)} : Ls.getLastD [] = Ls.getD (Ls.length - 1) [] := by
  rw [List.getLastD_eq_getLast?, List.getLast?_eq_getElem?, List.getD_eq_getElem?_getD]
theorem c_runTool {s : Nat} {f : Nat → Option (List Int32)} {Ls : List (List Int32)} (hB : b + 63 ≤ B) (hL : cPla b K rv) (hX : cTex b K rv) (hBu : cBui b B K rv) (hT : cT b iv tp nt tx lk) (hdT : dT tp nt tx lk) (hP : cP b iv ns tl pa pb ins) (hd : dP nt ns tl pa pb ins) (hs : s < ns) (hS : ∀ j, 100 + j ∈ ins s → cS B iv j (f j)) (hg : ∀ j L, f j = some L → gT L) (hH : ∀ w, w < 8 → iv (B + 1) w = h w) (hn0 : ins s ≠ []) (hLs : srcs (src tx lk f) (ins s) = some Ls) (h0 : cR iv (B + 5 + 2 * s) []) (hN : 600 < N) :
    zw (fX1_runTool N (K, iv, rv, lv) B (nI s) (B + 5 + 2 * s)) (fun q => ∃ iv', q.2 = (K, iv', rv, lv) ∧ fQ (fun c => c = B + 4 ∨ aRow (B + 5 + 2 * s) c) iv iv' ∧ (mkT (tl s) (pa s) (h (pb s)) Ls = none → q.1 = 0) ∧ ∀ L, mkT (tl s) (pa s) (h (pb s)) Ls = some L → q.1 = 1 ∧ cR iv' (B + 5 + 2 * s) L) := by
  have hn := hd.1
  have hnt := hdT.2.1
  obtain ⟨d1, d2, d3, d4, d5⟩ := hd.2 s hs
  have hBu2 := hBu
  obtain ⟨u1, u2, u3, u4, u5, u6, u7, u8⟩ := hBu
  obtain ⟨r1, r2⟩ := u8 s (by omega)
  have hlen := srcs_len hLs
  have hpos : 0 < (ins s).length := List.length_pos_iff.mpr hn0
  have hgood : ∀ L ∈ Ls, gT L := srcs_all hLs (fun i hi L hL => src_good hdT hg (by rcases d5 i hi with q | q <;> omega) hL)
  unfold fX1_runTool fX1_runTool_0 fX1_runTool_93
  refine zw.e (zgr_at u1 u2) ?_
  refine zw.e (zgr_at hL.1 hL.r_tools) ?_
  refine zw.e (zil_v hL.k_tools rfl (by omega) (by decide) (hP.2.1 s hs)) ?_
  refine zw.e (zgr_at u1 u2) ?_
  refine zw.e (zgr_at hL.1 hL.r_as) ?_
  refine zw.e (zil_v hL.k_as rfl (by omega) (by decide) (hP.2.2.1 s hs)) ?_
  refine zw.e (zgr_at u1 u4.1) ?_
  refine zw.e (zgr_at u1 u2) ?_
  refine zw.e (zgr_at hL.1 hL.r_bs) ?_
  refine zw.e (zil_v hL.k_bs rfl (by omega) (by decide) (hP.2.2.2.1 s hs)) ?_
  refine zw.e (zil_v u4.2 rfl d3 (by decide) (hH _ d3)) ?_
  generalize h (pb s) = w
  have lit : ∀ n : Nat, n < 8 → (nI (tl s) = nI n ↔ tl s = n) := fun n hn => nI_eq (by omega) (by omega)
  by_cases e5 : tl s = 5
  · refine zw.t ((lit 5 (by decide)).mpr e5) ?_
    have pick : ∀ m : Nat, m < (ins s).length → (if w < pa s then Ls.headD [] else Ls.getLastD []) = Ls.getD m [] → zw (fX1_runTool_67 N (K, iv, rv, lv) (B + 5 + 2 * s) B (nI s) (nI m)) (fun q => ∃ iv', q.2 = (K, iv', rv, lv) ∧ fQ (fun c => c = B + 4 ∨ aRow (B + 5 + 2 * s) c) iv iv' ∧ (mkT (tl s) (pa s) w Ls = none → q.1 = 0) ∧ ∀ L, mkT (tl s) (pa s) w Ls = some L → q.1 = 1 ∧ cR iv' (B + 5 + 2 * s) L) := by
      intro m hm e
      have hmk : mkT (tl s) (pa s) w Ls = some (Ls.getD m []) := by unfold mkT; rw [if_pos e5, e]
      rw [hmk]
      unfold fX1_runTool_67
      refine zw.e (zrc_at u1) ?_
      refine zw.c2 (c_inputRow hB hL hX hBu2 hT hdT hP hd hs hS hg hm (srcs_at hLs m hm)) ?_
      rintro a S ⟨rfl, mm, q1, q2, q3, q4, q5, q6⟩
      refine zw.e (zrc_at r2.1) ?_
      refine zw.c2 (c_append r2 h0 (by simp) q1 q2 q3 (by decide) q4 ⟨by dsimp at q5; omega, by dsimp at q5; omega, by dsimp at q5; omega⟩) ?_
      rintro v S ⟨p1, -⟩
      have hfit := (hgood _ (getD_mem (d := []) (show m < Ls.length by omega))).1
      obtain ⟨e1, iv2, rfl, f2, g3⟩ := p1 (by simpa using hfit)
      dsimp only at e1
      refine zw.s ⟨iv2, rfl, f2.mo (fun a h => Or.inr h), (fun q => by cases q), fun L hL => ?_⟩
      cases hL
      exact ⟨by rw [e1]; rfl, by simpa using g3⟩
    by_cases hw : w < pa s
    · refine zw.f (Int32.not_le.mpr hw) ?_
      exact pick 0 hpos (by rw [if_pos hw, head_getD])
    · refine zw.t (Int32.not_lt.mp hw) ?_
      refine zw.e (zgr_at u1 u2) ?_
      refine zw.e (zgr_at hL.1 hL.r_inputCount) ?_
      refine zw.e (zil_v hL.k_inputCount rfl (by omega) (by decide) (hP.2.2.2.2.1 s hs)) ?_
      rw [show nI (ins s).length - (1 : Int32) = nI ((ins s).length - 1) from nI_sub (b := 1) hpos]
      exact pick ((ins s).length - 1) (by omega) (by rw [if_neg hw, last_getD, hlen])
  · refine zw.f (fun q => e5 ((lit 5 (by decide)).mp q)) ?_
    have go : ∀ rev : Bool, jnT (tl s) w Ls = (if rev then Ls.reverse else Ls).flatten → zw (fX1_runTool_94 N (K, iv, rv, lv) B (B + 5 + 2 * s) (nI (tl s)) (pa s) w B (nI s) (B + 5 + 2 * s) (if rev then 1 else 0)) (fun q => ∃ iv', q.2 = (K, iv', rv, lv) ∧ fQ (fun c => c = B + 4 ∨ aRow (B + 5 + 2 * s) c) iv iv' ∧ (mkT (tl s) (pa s) w Ls = none → q.1 = 0) ∧ ∀ L, mkT (tl s) (pa s) w Ls = some L → q.1 = 1 ∧ cR iv' (B + 5 + 2 * s) L) := by
      intro rev hj
      unfold fX1_runTool_94 fX1_runTool_180
      refine zw.e (zrc_at u1) ?_
      refine zw.c2 (c_join (rev := rev) hB hL hX hBu2 hT hdT hP hd hs hS hg hLs h0 (by omega)) ?_
      rintro v S ⟨iv1, e, f1, p1, p2⟩
      dsimp only at e p1 p2
      subst e
      rw [← hj] at p1 p2
      have hJb : ∀ x ∈ jnT (tl s) w Ls, isB x := fun x hx => by
        obtain ⟨L, h1, h2⟩ := jn_mem hx
        exact (hgood L h1).2 x h2
      have hmk : mkT (tl s) (pa s) w Ls = if 200 < (jnT (tl s) w Ls).length then none else appT (tl s) (pa s) w (jnT (tl s) w Ls) := by unfold mkT; rw [if_neg e5]
      rw [hmk]
      generalize jnT (tl s) w Ls = J at p1 p2 hJb ⊢
      have f1' : fQ (fun c => c = B + 4 ∨ aRow (B + 5 + 2 * s) c) iv iv1 := f1.mo (fun a h => Or.inr h)
      by_cases hl : J.length ≤ 200
      · obtain ⟨e1, g1⟩ := p1 hl
        rw [e1, if_neg (show ¬ 200 < J.length by omega)]
        refine zw.f (by decide) ?_
        have plain : appT (tl s) (pa s) w J = some J → zw (some ((1 : Int32) &&& 1, ((K, iv1, rv, lv) : zS))) (fun q => ∃ iv', q.2 = (K, iv', rv, lv) ∧ fQ (fun c => c = B + 4 ∨ aRow (B + 5 + 2 * s) c) iv iv' ∧ (appT (tl s) (pa s) w J = none → q.1 = 0) ∧ ∀ L, appT (tl s) (pa s) w J = some L → q.1 = 1 ∧ cR iv' (B + 5 + 2 * s) L) := fun ha => zw.s ⟨iv1, rfl, f1', (fun q => by rw [ha] at q; cases q), fun L hL => by rw [ha] at hL; cases hL; exact ⟨rfl, g1⟩⟩
        have done : ∀ (iv2 : Nat → Nat → Int32) (L : List Int32), fQ (fun c => c = B + 4 ∨ aRow (B + 5 + 2 * s) c) iv1 iv2 → cR iv2 (B + 5 + 2 * s) L → appT (tl s) (pa s) w J = some L → zw (some ((1 : Int32) &&& 1, ((K, iv2, rv, lv) : zS))) (fun q => ∃ iv', q.2 = (K, iv', rv, lv) ∧ fQ (fun c => c = B + 4 ∨ aRow (B + 5 + 2 * s) c) iv iv' ∧ (appT (tl s) (pa s) w J = none → q.1 = 0) ∧ ∀ L, appT (tl s) (pa s) w J = some L → q.1 = 1 ∧ cR iv' (B + 5 + 2 * s) L) := fun iv2 L f2 g2 ha => zw.s ⟨iv2, rfl, f1'.tr f2, (fun q => by rw [ha] at q; cases q), fun L hL => by rw [ha] at hL; cases hL; exact ⟨rfl, g2⟩⟩
        by_cases t1 : tl s = 1
        · refine zw.t ((lit 1 (by decide)).mpr t1) ?_
          refine zw.e (zrc_at r2.1) ?_
          refine zw.c2 (c_put r2 g1 hl (by decide)) ?_
          rintro v S ⟨p3, p4⟩
          dsimp only at p3 p4
          have ha : appT (tl s) (pa s) w J = if J.length < 200 then some (J ++ [w]) else none := by unfold appT; rw [if_pos t1]
          by_cases hl2 : J.length < 200
          · obtain ⟨e2, iv2, rfl, f2, g2⟩ := p3 hl2
            rw [e2]
            exact done iv2 (J ++ [w]) (f2.mo (fun a h => Or.inr h)) g2 (by rw [ha, if_pos hl2])
          · have e2 := p4 (by omega)
            cases e2
            exact zw.s ⟨iv1, rfl, f1', fun _ => rfl, fun L hL => by rw [ha, if_neg hl2] at hL; cases hL⟩
        · refine zw.f (fun q => t1 ((lit 1 (by decide)).mp q)) ?_
          by_cases t2 : tl s = 2
          · exact zw.t ((lit 2 (by decide)).mpr t2) (plain (by unfold appT; simp [t2]))
          · refine zw.f (fun q => t2 ((lit 2 (by decide)).mp q)) ?_
            by_cases t3 : tl s = 3
            · refine zw.t ((lit 3 (by decide)).mpr t3) ?_
              refine zw.c (c_strip r2 g1 hl (by omega)) ?_
              rintro S ⟨iv2, rfl, f2, g2⟩
              exact done iv2 _ (f2.mo (fun a h => Or.inr h)) g2 (by unfold appT; rw [if_neg t1, if_pos t3])
            · refine zw.f (fun q => t3 ((lit 3 (by decide)).mp q)) ?_
              by_cases t4 : tl s = 4
              · refine zw.t ((lit 4 (by decide)).mpr t4) ?_
                refine zw.c (c_mask r2 g1 hl (by omega)) ?_
                rintro S ⟨iv2, rfl, f2, g2⟩
                exact done iv2 _ (f2.mo (fun a h => Or.inr h)) g2 (by unfold appT; rw [if_neg t1, if_neg t3, if_pos t4])
              · refine zw.f (fun q => t4 ((lit 4 (by decide)).mp q)) ?_
                refine zw.f (fun q => e5 ((lit 5 (by decide)).mp q)) ?_
                by_cases t6 : tl s = 6
                · refine zw.t ((lit 6 (by decide)).mpr t6) ?_
                  refine zw.e (zrc_at u1) ?_
                  refine zw.c (c_sort hBu2 r2 (by omega) g1 hJb hl hN) ?_
                  rintro S ⟨iv2, rfl, f2, g2⟩
                  exact done iv2 _ f2 g2 (by unfold appT; rw [if_neg t1, if_neg t3, if_neg t4, if_pos t6])
                · refine zw.f (fun q => t6 ((lit 6 (by decide)).mp q)) ?_
                  by_cases t7 : tl s = 7
                  · refine zw.t ((lit 7 (by decide)).mpr t7) ?_
                    refine zw.c (c_sign r2 g1 hl (by omega)) ?_
                    rintro S ⟨iv2, rfl, f2, g2⟩
                    exact done iv2 _ (f2.mo (fun a h => Or.inr h)) g2 (by unfold appT; rw [if_neg t1, if_neg t3, if_neg t4, if_neg t6, if_pos t7])
                  · refine zw.f (fun q => t7 ((lit 7 (by decide)).mp q)) (plain ?_)
                    unfold appT
                    rw [if_neg t1, if_neg t3, if_neg t4, if_neg t6, if_neg t7]
      · rw [p2 hl, if_pos (show 200 < J.length by omega)]
        exact zw.t rfl (zw.s ⟨iv1, rfl, f1', fun _ => rfl, fun L hL => by cases hL⟩)
    by_cases t2 : tl s = 2
    · refine zw.t ((lit 2 (by decide)).mpr t2) ?_
      refine zw.it (fun c => go false ?_) (fun c => go true ?_)
      · unfold jnT
        rw [if_neg (fun q => by rw [c] at q; exact absurd q.2 (by decide))]
        rfl
      · have hodd : w &&& 1 = 1 := (and1_1 w).mpr (bnf (fun q => c ((and1_0 w).mpr q)))
        unfold jnT
        rw [if_pos ⟨t2, hodd⟩, if_pos rfl]
    · refine zw.f (fun q => t2 ((lit 2 (by decide)).mp q)) (go false ?_)
      unfold jnT
      rw [if_neg (fun q => t2 q.1)]
      rfl
theorem one_0 {x : Int32} {k : Nat} (hk : k < 32) : x &&& ((1 : Int32) <<< (nI k &&& 31)) = 0 ↔ bt x k = false := (nf_bit x k hk).symm.trans (ush_0 hk)
/-- where a build keeps what it makes -/
abbrev aThg (B : Nat) : Nat → Prop := fun c => B + 3 ≤ c ∧ c < B + 53
/-- the steps of a set are made -/
theorem c_make {x : Int32} {U : Nat → Bool} (hB : b + 63 ≤ B) (hL : cPla b K rv) (hX : cTex b K rv) (hBu : cBui b B K rv) (hT : cT b iv tp nt tx lk) (hdT : dT tp nt tx lk) (hP : cP b iv ns tl pa pb ins) (hd : dP nt ns tl pa pb ins) (hH : ∀ w, w < 8 → iv (B + 1) w = h w) (hw : ∀ w, w < 8 → isB (h w)) (hU : isS x U) (hcl : ∀ s, s < ns → U s = true → ∀ j, 100 + j ∈ ins s → U j = true) (hI : ∀ s, s < ns → U s = true → bt (iv B 6) s = false → cS B iv s (thg tx lk tl pa pb ins h s)) (hN : 600 < N) :
    zw (fX1_make N (K, iv, rv, lv) B x) (fun q => ∃ iv', q = (K, iv', rv, lv) ∧ fQ (fun c => c = B ∨ aThg B c) iv iv' ∧ ∀ s, s < ns → U s = true → cS B iv' s (thg tx lk tl pa pb ins h s)) := by
  have hn := hd.1
  have hnt := hdT.2.1
  have hBu2 := hBu
  obtain ⟨u1, u2, u3, u4, u5, u6, u7, u8⟩ := hBu
  have hok := hd.ok hnt
  have hgd : ∀ j L, (if j < ns then thg tx lk tl pa pb ins h j else none) = some L → gT L := fun j L e => by
    split at e
    · next hj => exact tab_good hdT hd hw (j + 1) hj j L e
    · cases e
  unfold fX1_make fX1_make_0 lX1_make_2
  refine zw.loop (fun m y => ∃ k iv1, k + m = ns ∧ y = ((K, iv1, rv, lv), B, x, nI k) ∧ fQ (aThg B) iv iv1 ∧ ∀ s, s < ns → U s = true → s < k ∨ bt (iv B 6) s = false → cS B iv1 s (thg tx lk tl pa pb ins h s)) ?_ N ns _ (by omega) ⟨0, iv, by omega, rfl, fQ.rf, fun s h1 h2 h3 => hI s h1 h2 (by rcases h3 with q | q; omega; exact q)⟩
  rintro m ⟨S, x0, x1, x2⟩ Kc ⟨k, iv1, hk, hy, f1, g1⟩ ih
  cases hy
  dsimp only
  unfold fX1_make_2 fX1_make_63 fX1_make_68 fX1_make_69
  have hP1 : cP b iv1 ns tl pa pb ins := hP.fr f1 (fun a h1 h2 => by omega)
  have hT1 : cT b iv1 tp nt tx lk := hT.fr f1 (fun a h1 h2 => by omega) hnt
  refine zw.e (zgr_at u1 u2) ?_
  refine zw.e (zgi_v hL.1 hP1.1) ?_
  by_cases hm : m = 0
  · refine zw.t (nI_le (by omega) (by omega)) ?_
    refine zw.e (zgi_at u1) ?_
    refine zw.e (zpi_at u1) ?_
    refine zw.s ⟨_, rfl, (fQ.mo (B := fun c => c = B ∨ aThg B c) f1 (fun a h => Or.inr h)).put (Or.inl rfl) _ _, fun s h1 h2 => ?_⟩
    exact (g1 s h1 h2 (Or.inl (by omega))).fr (zu_o (by omega)) (fun j => zu_o (by omega)) (fun j => zu_o (by omega))
  · have hkn : k < ns := by omega
    refine zw.f (nI_ge hkn (by omega)) ?_
    have e6 : iv1 B 6 = iv B 6 := f1 _ _ (by omega)
    refine zw.e (zgi_v u1 e6) ?_
    have hbit : (x &&& iv B 6) &&& ((1 : Int32) <<< (nI k &&& 31)) = 0 ↔ (U k && bt (iv B 6) k) = false := by rw [one_0 (by omega), b_and, hU k (by omega)]
    by_cases hc : (U k && bt (iv B 6) k) = false
    · refine zw.t (hbit.mpr hc) ?_
      refine ih (m - 1) _ (by omega) ⟨k + 1, iv1, by omega, by rw [nI_1 k], f1, fun s h1 h2 h3 => ?_⟩
      by_cases e : s = k
      · subst e
        rw [h2, Bool.true_and] at hc
        exact g1 s h1 h2 (Or.inr hc)
      · exact g1 s h1 h2 (by rcases h3 with q | q; exact Or.inl (by omega); exact Or.inr q)
    · refine zw.f (fun q => hc (hbit.mp q)) ?_
      have hUk : U k = true := by
        have := bnf hc
        rw [Bool.and_eq_true] at this
        exact this.1
      obtain ⟨r1, r2⟩ := u8 k (by omega)
      refine zw.e (zgr_at u1 u5.1) ?_
      refine zw.e (zal_at u5.2 (by omega) (by decide) r1) ?_
      refine zw.e (zpz_0 r2.1) ?_
      have f2 : fQ (aThg B) iv (zu iv1 (B + 5 + 2 * k) 1 0) := f1.put ⟨by omega, by omega⟩ _ _
      have fo : fQ (fun c => c = B + 5 + 2 * k) iv1 (zu iv1 (B + 5 + 2 * k) 1 0) := fQ.put (A := fun c => c = B + 5 + 2 * k) fQ.rf rfl _ _
      have h0 : cR (zu iv1 (B + 5 + 2 * k) 1 0) (B + 5 + 2 * k) [] := ⟨zu_s, aH.nil⟩
      generalize hiv2 : zu iv1 (B + 5 + 2 * k) 1 0 = iv2 at f2 fo h0
      have keep2 : ∀ s, s ≠ k → ∀ oo, cS B iv1 s oo → cS B iv2 s oo := fun s hsk oo hc => hc.fr (fo _ _ (by omega)) (fun j => fo _ _ (by omega)) (fun j => fo _ _ (by omega))
      have hP2 : cP b iv2 ns tl pa pb ins := hP.fr f2 (fun a h1 h2 => by omega)
      have hT2 : cT b iv2 tp nt tx lk := hT.fr f2 (fun a h1 h2 => by omega) hnt
      have hH2 : ∀ w, w < 8 → iv2 (B + 1) w = h w := fun w hw => by rw [f2 _ _ (by omega)]; exact hH w hw
      have hin : ∀ j, 100 + j ∈ ins k → j < k := fun j hj => by rcases hok.2.2 k hkn _ hj with q | q <;> omega
      have hS2 : ∀ j, 100 + j ∈ ins k → cS B iv2 j (if j < ns then thg tx lk tl pa pb ins h j else none) := fun j hj => by
        have hjk := hin j hj
        rw [if_pos (by omega)]
        exact keep2 j (by omega) _ (g1 j (by omega) (hcl k hkn hUk j hj) (Or.inl hjk))
      have hmk : thg tx lk tl pa pb ins h k = mk tx lk tl pa pb ins h (fun j => if j < ns then thg tx lk tl pa pb ins h j else none) k := by
        rw [thg_mk hok hkn]
        exact mk_cong hok.1 (hok.2.2 k hkn) (fun j hj => by have := hin j hj; rw [if_pos (by omega)]) rfl
      generalize hf : (fun j => if j < ns then thg tx lk tl pa pb ins h j else none) = f at hmk
      have hS2' : ∀ j, 100 + j ∈ ins k → cS B iv2 j (f j) := fun j hj => by rw [← hf]; exact hS2 j hj
      have hgd' : ∀ j L, f j = some L → gT L := fun j L e => hgd j L (by rw [← hf] at e; exact e)
      -- the end of a step
      have fin : ∀ (iv3 : Nat → Nat → Int32) (v : Int32), fQ (fun c => c = B + 4 ∨ aRow (B + 5 + 2 * k) c) iv2 iv3 → (v = 1 ∧ thg tx lk tl pa pb ins h k = none ∨ v = 0 ∧ ∃ L, thg tx lk tl pa pb ins h k = some L ∧ cR iv3 (B + 5 + 2 * k) L) → zw ((zzs (K, iv3, rv, lv) (B + 3) (nI k) v).bind fun S1 => Kc (S1, B, x, nI k + 1)) (fun q => ∃ iv', q = (K, iv', rv, lv) ∧ fQ (fun c => c = B ∨ aThg B c) iv iv' ∧ ∀ s, s < ns → U s = true → cS B iv' s (thg tx lk tl pa pb ins h s)) := by
        intro iv3 v f3 hv
        have hv1 : v &&& 1 = v := by rcases hv with ⟨rfl, -⟩ | ⟨rfl, -⟩ <;> decide
        refine zw.e (zzs_v u6.2 rfl (by omega) (by decide) hv1) ?_
        have f4 : fQ (aThg B) iv (zu iv3 (B + 3) k v) := (f2.tr (f3.mo (fun a h => by omega))).put ⟨by omega, by omega⟩ _ _
        refine ih (m - 1) _ (by omega) ⟨k + 1, _, by omega, by rw [nI_1 k], f4, fun s h1 h2 h3 => ?_⟩
        by_cases e : s = k
        · subst e
          rcases hv with ⟨rfl, e0⟩ | ⟨rfl, L, e0, hR⟩
          · rw [e0]
            exact zu_s
          · rw [e0]
            exact ⟨zu_s, by rw [zu_o (by omega)]; exact hR.1, hR.2.ne (by omega)⟩
        · have q := keep2 s e _ (g1 s h1 h2 (by rcases h3 with q | q; exact Or.inl (by omega); exact Or.inr q))
          exact q.fr (by rw [zu_o (by omega)]; exact f3 _ _ (by omega)) (fun j => by rw [zu_o (by omega)]; exact f3 _ _ (by omega)) (fun j => by rw [zu_o (by omega)]; exact f3 _ _ (by omega))
      refine zw.e (zgr_at u1 u6.1) ?_
      refine zw.e (zrc_at u1) ?_
      refine zw.c2 (c_hasGood hL hX hBu2 hT2 hnt hP2 hd hkn hS2' (by omega)) ?_
      intro v S e
      cases e
      by_cases hgo : ins k ≠ [] ∧ srcs (src tx lk f) (ins k) ≠ none
      · rw [if_pos hgo]
        refine zw.f (by decide) ?_
        obtain ⟨Ls, hLs⟩ := Option.ne_none_iff_exists'.mp hgo.2
        have hmk2 : thg tx lk tl pa pb ins h k = mkT (tl k) (pa k) (h (pb k)) Ls := by
          rw [hmk]
          unfold mk
          rw [if_neg hgo.1, hLs]
          rfl
        refine zw.e (zgr_at u1 u5.1) ?_
        refine zw.e (zal_at u5.2 (by omega) (by decide) r1) ?_
        refine zw.e (zrc_at u1) ?_
        refine zw.c2 (c_runTool hB hL hX hBu2 hT2 hdT hP2 hd hkn hS2' hgd' hH2 hgo.1 hLs h0 hN) ?_
        rintro v S ⟨iv3, e, f3, p1, p2⟩
        dsimp only at e p1 p2
        subst e
        cases hmt : mkT (tl k) (pa k) (h (pb k)) Ls with
        | none =>
          rw [p1 hmt]
          exact zw.t rfl (fin iv3 1 f3 (Or.inl ⟨rfl, by rw [hmk2, hmt]⟩))
        | some L =>
          obtain ⟨e1, g3⟩ := p2 L hmt
          rw [e1]
          exact zw.f (by decide) (fin iv3 0 f3 (Or.inr ⟨rfl, L, by rw [hmk2, hmt], g3⟩))
      · rw [if_neg hgo]
        refine zw.t rfl (fin iv2 1 fQ.rf (Or.inl ⟨rfl, ?_⟩))
        rw [hmk]
        unfold mk
        by_cases e0 : ins k = []
        · rw [if_pos e0]
        · rw [if_neg e0]
          have : srcs (src tx lk f) (ins k) = none := by
            cases hz : srcs (src tx lk f) (ins k) with
            | none => rfl
            | some z => exact absurd ⟨e0, by rw [hz]; exact fun q => by cases q⟩ hgo
          rw [this]
          rfl
end C5
