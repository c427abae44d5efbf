/-! the model: forge, change, count -/
section M4
variable {N b : Nat} {K : Nat → Option (Nat × Nat)} {iv : Nat → Nat → Int32} {rv : Nat → Nat → Option Nat} {lv : Nat → Nat → Int64} {S : zS}
variable {tp : List Int32} {nt : Nat} {tx : Nat → List Int32} {lk : Nat → Bool} {ns : Nat} {tl : Nat → Nat} {pa : Nat → Int32} {pb : Nat → Nat} {ins : Nat → List Nat} {mb : Nat → Option Nat} {mf : Nat → Nat} {fg : Nat → Bool}
theorem m_forge {x y : Int32} (hL : mL b K rv) (hM : mM b iv mb mf fg) :
    zw (fX8_forge N (K, iv, rv, lv) b x y) (fun q => ∃ iv', q.2 = (K, iv', rv, lv) ∧ fM b [25] [] iv iv' ∧ (inR 30 x ∧ inR 2 y → q.1 = (if fg x.toNatClampNeg then 1 else 0) ∧ mM b iv' mb mf (upB fg x.toNatClampNeg (decide (y = 1)))) ∧ (¬ (inR 30 x ∧ inR 2 y) → q.1 = -1 ∧ mM b iv' mb mf fg)) := by
  unfold fX8_forge fX8_forge_0 fX8_forge_16
  refine zw.e2 m_isMaker ?_
  by_cases h : inR 30 x
  · rw [if_pos h]
    refine zw.f (by decide) ?_
    refine zw.e2 (m_inR (n := 1) (by decide)) ?_
    by_cases h2 : inR 2 y
    · rw [if_pos h2]
      refine zw.f (by decide) ?_
      obtain ⟨t, ht, rfl⟩ := h.at (by omega)
      have hc : (nI t).toNatClampNeg = t := nI_clamp (by omega)
      rw [hc]
      refine zw.e (zgr_at hL.o hL.r_forged) ?_
      refine zw.e (zzl_v hL.k_forged rfl ht (by decide) (hM t ht).2.2) ?_
      have fin : ∀ r : Int32, r = (if fg t then 1 else 0) → zw (fX8_forge_32 N (K, iv, rv, lv) b (nI t) y r) (fun q => ∃ iv', q.2 = (K, iv', rv, lv) ∧ fM b [25] [] iv iv' ∧ (inR 30 (nI t) ∧ inR 2 y → q.1 = (if fg t then 1 else 0) ∧ mM b iv' mb mf (upB fg t (decide (y = 1)))) ∧ (¬ (inR 30 (nI t) ∧ inR 2 y) → q.1 = -1 ∧ mM b iv' mb mf fg)) := by
        intro r hr
        unfold fX8_forge_32 fX8_forge_48
        refine zw.e (zgr_at hL.o hL.r_forged) ?_
        have fin2 : ∀ w : Int32, w &&& 1 = (if decide (y = 1) then 1 else 0) → zw ((zzs (K, iv, rv, lv) (b + 25) (nI t) w).bind fun S1 => some (r, S1)) (fun q => ∃ iv', q.2 = (K, iv', rv, lv) ∧ fM b [25] [] iv iv' ∧ (inR 30 (nI t) ∧ inR 2 y → q.1 = (if fg t then 1 else 0) ∧ mM b iv' mb mf (upB fg t (decide (y = 1)))) ∧ (¬ (inR 30 (nI t) ∧ inR 2 y) → q.1 = -1 ∧ mM b iv' mb mf fg)) := by
          intro w hw
          refine zw.e (zzs_v hL.k_forged rfl ht (by decide) hw) ?_
          refine zw.s ⟨_, rfl, fM.rf.put (by simp) _ _, fun _ => ⟨hr, fun j hj => ?_⟩, fun q => absurd ⟨h, h2⟩ q⟩
          unfold upB
          refine ⟨by rw [zu_o (by omega)]; exact (hM j hj).1, by rw [zu_o (by omega)]; exact (hM j hj).2.1, ?_⟩
          by_cases e : j = t
          · subst e
            rw [zu_s, if_pos rfl]
          · rw [zu_o (by omega), if_neg e]
            exact (hM j hj).2.2
        refine zw.it (fun c => fin2 _ (by rw [c]; decide)) (fun c => fin2 _ (by rw [decide_eq_false c]; decide))
      refine zw.it (fun c => fin _ c.symm) (fun c => fin _ ?_)
      by_cases hk : fg t = true
      · rw [if_pos hk]
      · rw [if_neg hk] at c
        exact absurd rfl c
    · rw [if_neg h2]
      exact zw.t rfl (zw.s ⟨iv, rfl, fM.rf, fun q => absurd q.2 h2, fun _ => ⟨rfl, hM⟩⟩)
  · rw [if_neg h]
    exact zw.t rfl (zw.s ⟨iv, rfl, fM.rf, fun q => absurd q.1 h, fun _ => ⟨rfl, hM⟩⟩)
/-- the last changes: kind, place, byte -/
def mC (b : Nat) (iv : Nat → Nat → Int32) (ch : List (Int32 × Int32 × Int32)) : Prop :=
  iv b 24 = nI ch.length ∧ ∀ i, i < ch.length → iv (b + 20) i = (ch.getD i (0, 0, 0)).1 ∧ iv (b + 21) i = (ch.getD i (0, 0, 0)).2.1 ∧ iv (b + 22) i = (ch.getD i (0, 0, 0)).2.2
variable {ch : List (Int32 × Int32 × Int32)}
theorem mC.fr {iv' : Nat → Nat → Int32} {rs ks : List Nat} (h : mC b iv ch) (hf : fM b rs ks iv iv') (h1 : 0 ∉ rs ∧ 20 ∉ rs ∧ 21 ∉ rs ∧ 22 ∉ rs) (h2 : 24 ∉ ks) : mC b iv' ch :=
  ⟨by rw [hf.fld h1.1 h2]; exact h.1, fun i hi => by rw [hf.arr (by decide) h1.2.1, hf.arr (by decide) h1.2.2.1, hf.arr (by decide) h1.2.2.2]; exact h.2 i hi⟩
def spChange (ch : List (Int32 × Int32 × Int32)) (x y : Int32) : Int32 :=
  if inR ch.length x ∧ inR 3 y then (if y = 0 then (ch.getD x.toNatClampNeg (0, 0, 0)).1 else if y = 1 then (ch.getD x.toNatClampNeg (0, 0, 0)).2.1 else (ch.getD x.toNatClampNeg (0, 0, 0)).2.2) else -1
theorem m_change {x y : Int32} (hL : mL b K rv) (hC : mC b iv ch) (hl : ch.length ≤ 400) : fX8_change N (K, iv, rv, lv) b x y = some (spChange ch x y, (K, iv, rv, lv)) := by
  have key : zw (fX8_change N (K, iv, rv, lv) b x y) (fun q => q = (spChange ch x y, (K, iv, rv, lv))) := by
    unfold fX8_change fX8_change_0 fX8_change_23 fX8_change_58
    refine zw.e (zgi_v hL.o hC.1) ?_
    refine zw.e2 m_in ?_
    have h0 : (¬ x < 0 ∧ ¬ nI ch.length - 1 < x) ↔ inR ch.length x := in_R (by omega)
    by_cases h1 : inR ch.length x
    · rw [if_pos (h0.mpr h1)]
      refine zw.f (by decide) ?_
      refine zw.e2 (m_inR (n := 2) (by decide)) ?_
      by_cases h2 : inR 3 y
      · rw [if_pos h2]
        refine zw.f (by decide) ?_
        obtain ⟨i, hi, rfl⟩ := h1.at (by omega)
        have hc : (nI i).toNatClampNeg = i := nI_clamp (by omega)
        refine zw.it (fun e0 => ?_) (fun e0 => ?_)
        · refine zw.e (zgr_at hL.o hL.r_changeKind) ?_
          refine zw.e (zil_v hL.k_changeKind rfl (by omega) (by decide) (hC.2 i hi).1) ?_
          exact zw.s (by unfold spChange; rw [if_pos ⟨h1, h2⟩, hc, if_pos e0])
        · refine zw.it (fun e1 => ?_) (fun e1 => ?_)
          · refine zw.e (zgr_at hL.o hL.r_changePlace) ?_
            refine zw.e (zil_v hL.k_changePlace rfl (by omega) (by decide) (hC.2 i hi).2.1) ?_
            exact zw.s (by unfold spChange; rw [if_pos ⟨h1, h2⟩, hc, if_neg e0, if_pos e1])
          · refine zw.e (zgr_at hL.o hL.r_changeByte) ?_
            refine zw.e (zil_v hL.k_changeByte rfl (by omega) (by decide) (hC.2 i hi).2.2) ?_
            exact zw.s (by unfold spChange; rw [if_pos ⟨h1, h2⟩, hc, if_neg e0, if_neg e1])
      · rw [if_neg h2]
        exact zw.t rfl (zw.s (by unfold spChange; rw [if_neg (fun q => h2 q.2)]))
    · rw [if_neg (fun q => h1 (h0.mp q))]
      exact zw.t rfl (zw.s (by unfold spChange; rw [if_neg (fun q => h1 q.1)]))
  obtain ⟨q, e1, e2⟩ := key
  rw [e1, e2]
/-- count -/
def spCount (tp : List Int32) (nt : Nat) (lk : Nat → Bool) (ns : Nat) (mb : Nat → Option Nat) (fg : Nat → Bool) (x : Int32) : Int32 :=
  if x = 0 then nI nt else if x = 1 then nI ns else if x = 2 then nI (fb_ct (fun m => (mb m).isNone) 30) else if x = 3 then nI (fb_ct fg 30) else if x = 4 then nI tp.length else if x = 5 then nI (fb_ct lk nt) else -1
theorem m_count {x : Int32} (hL : mL b K rv) (hT : mT b iv tp nt tx lk) (hdT : dT tp nt tx lk) (hP : mP b iv ns tl pa pb ins) (hM : mM b iv mb mf fg) (hdM : dM mb mf) (hN : 100 < N) : zw (fX8_count N (K, iv, rv, lv) b x) (fun q => q = (spCount tp nt lk ns mb fg x, (K, iv, rv, lv))) := by
  have hnt := hdT.2.1
  unfold fX8_count fX8_count_0 spCount
  by_cases e0 : x = 0
  · rw [if_pos e0, if_pos e0]
    exact zw.e (zgi_v hL.o hT.2.2.1) (zw.s rfl)
  rw [if_neg e0, if_neg e0]
  by_cases e1 : x = 1
  · rw [if_pos e1, if_pos e1]
    exact zw.e (zgi_v hL.o hP.1) (zw.s rfl)
  rw [if_neg e1, if_neg e1]
  by_cases e2 : x = 2
  · rw [if_pos e2, if_pos e2]
    unfold lX8_count_52
    refine zw.loop (fun m y => ∃ k, k + m = 30 ∧ y = ((K, iv, rv, lv), b, nI (fb_ct (fun m => (mb m).isNone) k), nI k)) ?_ N 30 _ (by omega) ⟨0, by omega, rfl⟩
    rintro m ⟨S, x0, x2, x3⟩ Kc ⟨k, hk, hy⟩ ih
    cases hy
    dsimp only
    unfold fX8_count_52 fX8_count_73
    by_cases hm : m = 0
    · have : k = 30 := by omega
      subst this
      exact zw.t (by decide) (zw.s rfl)
    · refine zw.f (nI_ge (show k < 30 by omega) (by decide)) ?_
      refine zw.e (zgr_at hL.o hL.r_by) ?_
      refine zw.e (zil_v hL.k_by rfl (by omega) (by decide) (hM k (by omega)).1) ?_
      have fin : ∀ d : Nat, d = (if (mb k).isNone then 1 else 0) → zw (Kc ((K, iv, rv, lv), b, nI (fb_ct (fun m => (mb m).isNone) k) + nI d, nI k + 1)) (fun q => q = (nI (fb_ct (fun m => (mb m).isNone) 30), (K, iv, rv, lv))) := fun d hd => ih (m - 1) _ (by omega) ⟨k + 1, by omega, by rw [nI_1 k, nI_add, fb_ct_succ, hd]⟩
      cases hmb : mb k with
      | none => exact zw.f (by rw [byV]; decide) (fin 1 (by rw [hmb]; rfl))
      | some j =>
        have := (hdM k (by omega)).1 j hmb
        exact zw.t (nI_pos' (by omega)) (fin 0 (by rw [hmb]; rfl))
  rw [if_neg e2, if_neg e2]
  by_cases e3 : x = 3
  · rw [if_pos e3, if_pos e3]
    unfold lX8_count_85
    refine zw.loop (fun m y => ∃ k, k + m = 30 ∧ y = ((K, iv, rv, lv), b, nI (fb_ct fg k), nI k)) ?_ N 30 _ (by omega) ⟨0, by omega, rfl⟩
    rintro m ⟨S, x0, x2, x3⟩ Kc ⟨k, hk, hy⟩ ih
    cases hy
    dsimp only
    unfold fX8_count_85 fX8_count_106
    by_cases hm : m = 0
    · have : k = 30 := by omega
      subst this
      exact zw.t (by decide) (zw.s rfl)
    · refine zw.f (nI_ge (show k < 30 by omega) (by decide)) ?_
      refine zw.e (zgr_at hL.o hL.r_forged) ?_
      refine zw.e (zzl_v hL.k_forged rfl (by omega) (by decide) (hM k (by omega)).2.2) ?_
      have fin : ∀ d : Nat, d = (if fg k then 1 else 0) → zw (Kc ((K, iv, rv, lv), b, nI (fb_ct fg k) + nI d, nI k + 1)) (fun q => q = (nI (fb_ct fg 30), (K, iv, rv, lv))) := fun d hd => ih (m - 1) _ (by omega) ⟨k + 1, by omega, by rw [nI_1 k, nI_add, fb_ct_succ, hd]⟩
      cases hmb : fg k with
      | false => exact zw.t (by simp) (fin 0 (by rw [hmb]; rfl))
      | true => exact zw.f (by simp) (fin 1 (by rw [hmb]; rfl))
  rw [if_neg e3, if_neg e3]
  by_cases e4 : x = 4
  · rw [if_pos e4, if_pos e4]
    exact zw.e (zgi_v hL.o hT.1) (zw.s rfl)
  rw [if_neg e4, if_neg e4]
  by_cases e5 : x = 5
  · rw [if_pos e5, if_pos e5]
    unfold lX8_count_123
    refine zw.loop (fun m y => ∃ k, k + m = nt ∧ y = ((K, iv, rv, lv), b, nI (fb_ct lk k), nI k)) ?_ N nt _ (by omega) ⟨0, by omega, rfl⟩
    rintro m ⟨S, x0, x2, x3⟩ Kc ⟨k, hk, hy⟩ ih
    cases hy
    dsimp only
    unfold fX8_count_123 fX8_count_146
    refine zw.e (zgi_v hL.o hT.2.2.1) ?_
    by_cases hm : m = 0
    · have : k = nt := by omega
      subst this
      exact zw.t (Int32.le_refl _) (zw.s rfl)
    · refine zw.f (nI_ge (show k < nt by omega) (by omega)) ?_
      refine zw.e (zgr_at hL.o hL.r_lacking) ?_
      refine zw.e (zzl_v hL.k_lacking rfl (by omega) (by decide) (hT.2.2.2.2.2 k (by omega))) ?_
      have fin : ∀ d : Nat, d = (if lk k then 1 else 0) → zw (Kc ((K, iv, rv, lv), b, nI (fb_ct lk k) + nI d, nI k + 1)) (fun q => q = (nI (fb_ct lk nt), (K, iv, rv, lv))) := fun d hd => ih (m - 1) _ (by omega) ⟨k + 1, by omega, by rw [nI_1 k, nI_add, fb_ct_succ, hd]⟩
      cases hmb : lk k with
      | false => exact zw.t (by simp) (fin 0 (by rw [hmb]; rfl))
      | true => exact zw.f (by simp) (fin 1 (by rw [hmb]; rfl))
  rw [if_neg e5, if_neg e5]
  exact zw.s rfl
end M4
