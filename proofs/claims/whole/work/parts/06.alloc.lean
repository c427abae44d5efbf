/-! rows that make cells -/
/-- a store with one cell more, blank -/
def zad (S : zS) (z t n : Nat) : zS := (fun a => if a = z then some (t, n) else S.1 a, zro S.2.1 z (fun _ => 0), zro S.2.2.1 z (fun _ => none), zro S.2.2.2 z (fun _ => 0))
/-- room for k cells and n slots more -/
def zbud (MC MS q w k n : Nat) : Option Unit := if q + k ≤ MC ∧ w + n ≤ MS then some () else none
def zfin {α : Type} (MC MS q w : Nat) (x : α) : Option α := if q ≤ MC ∧ w ≤ MS then some x else none
/-- a length for newarray: not negative -/
def zlg (n : Int32) : Option Nat := if ¬ n < 0 ∧ n.toNatClampNeg ≤ 65536 then some n.toNatClampNeg else none
/-- new int[n][k], small: the outer array at z, the rows behind it -/
def zad2 (S : zS) (z n k : Nat) : zS := (fun a => if a = z then some (13, n) else if z + 1 ≤ a ∧ a < z + 1 + n then some (9, k) else S.1 a, (fun a j => if z ≤ a ∧ a < z + 1 + n then 0 else S.2.1 a j), (fun a j => if a = z then (if j < n then some (z + 1 + j) else none) else if z ≤ a ∧ a < z + 1 + n then none else S.2.2.1 a j), (fun a j => if z ≤ a ∧ a < z + 1 + n then 0 else S.2.2.2 a j))
theorem zbud_at {MC MS q w k n : Nat} {u : Unit} (h : zbud MC MS q w k n = some u) : q + k ≤ MC ∧ w + n ≤ MS := by
  unfold zbud at h
  split at h
  · assumption
  · cases h
theorem zH.add {D : va_G} {cy : Nat → ClassId} {A : Nat → Prop} {S : zS} {H H1 : Heap} {z t n : Nat} (h : zH D cy A S H) (hz : H.size = z) (hA : A z) (o1 : ∀ q : Nat, q < z → H1[q]? = H[q]?) (h1 : va_at D vwCl (z, zE cy (zad S z t n) z t n) H1) : zH D cy A (zad S z t n) H1 := by
  intro b c k hb
  by_cases e : b = z
  · subst e
    simp only [zad, if_true] at hb
    cases hb
    exact ⟨hA, h1⟩
  · simp only [zad, if_neg e] at hb
    obtain ⟨g1, g2⟩ := h b c k hb
    have hlt : b < H.size := g2.lt
    refine ⟨g1, ?_⟩
    rw [zE_cong (S := S) (S1 := zad S z t n) (zro_ne e) (zro_ne e) (zro_ne e)]
    exact g2.kept (o1 b (by omega))
section ZN
variable {p : Program} {l : Launch} {e : Env} {R : Room} {s : State} {m : MethodId} {args : Array Value} {below : List Frame} {meth : Method} {c : Code} {H : Heap} {locs : List Loc} {q w : Nat} {Q : State → Prop}
variable {cc : ByteArray} {pc nL : Nat} {ls : Array Slot} {rest : List Value} {D : va_G} {cy : Nat → ClassId} {A : Nat → Prop} {a : Nat} {own : String} {rt : Option FieldType} {S S1 : zS} {z : Nat}
/-- what 'new' needs of the tables -/
def zNL (own : String) (idx ci N : Nat) : Prop := ∃ (C : String) (T : u_T) (ty : Nat → FieldType), vwCl[ci]? = some (C, T, N) ∧ (∀ w ∈ u_ws C T N, w ∈ ztb) ∧ (∀ k, k < N → parseFieldDescriptor (T k).2.2.1 = some (ty k)) ∧ Cond.classLink own idx C ∈ ztb ∧ Cond.instantiable C N ∈ ztb ∧ Cond.initialized C ∈ ztb ∧ (∀ j, j < N → defaultValue (ty j) = (if (zF ci)[j]? = some true then .null else .int 0)) ∧ (zF ci).length = N ∧ ci < 9
theorem z_new (X : zX D cy p s m meth c cc nL own rt) {idx ci N : Nat} (nl : zNL own idx ci N) (hH : zH D cy A S H) (hS0 : zV A z s.heap H locs) (hA : ∀ q : Nat, z ≤ q → A q) {u : Unit} (hbud : zbud R.cells R.slots q w 1 N = some u) (hdg : decode cc pc = .ok (.new idx, 3))
    (kk : ∀ H1 : Heap, zH D cy A (zad S z ci 0) H1 → zV A (z + 1) s.heap H1 locs → W p l e R s m args below meth c H1 locs (q + 1) (w + N) Q (F0 m (pc + 3) ls (.ref z :: rest))) : W p l e R s m args below meth c H locs q w Q (F0 m pc ls rest) := by
  obtain ⟨C, T, ty, hc, hin, hty, h1, h2, h3, hfs, hN, hci⟩ := nl
  have hts := X.ts (args := args)
  have hKn := X.2.2.2.2.2.2.2.2.1 ci _ hc
  obtain ⟨hS, hz⟩ := hS0
  have hb := zbud_at hbud
  refine W.newcK X.1 X.2.1 X.2.2.2.1 (hts _ h1) (hts _ h2) (hts _ h3) rfl hdg hb.1 hb.2 hKn.2.1 hz fun H1 kC hkC e1 z1 o1 => ?_
  refine kk H1 (hH.add hz (hA z (Nat.le_refl _)) o1 ?_) ⟨⟨Nat.le_trans hS.1 (by omega), fun x g1 g2 => (o1 x (by have := hS.1; omega)).trans (hS.2.1 x g1 g2), hS.2.2⟩, z1⟩
  rw [zE_o hci]
  refine ⟨_, hc, (u_born ty hts hin hKn hkC e1 hty).to fun j hj => ?_⟩
  have hj2 : j < (zF ci).length := by rw [hN]; exact hj
  rw [hfs j hj]
  simp only [vp_V, List.getD_eq_getElem?_getD, zfs, List.getElem?_mapIdx, zad, zro_eq, List.getElem?_eq_getElem hj2]
  cases (zF ci)[j] <;> simp [va_rf, zro]
theorem zlg_at {n : Int32} {k : Nat} (h : zlg n = some k) : ¬ n < 0 ∧ n.toNatClampNeg = k ∧ k ≤ 65536 := by
  unfold zlg at h
  split at h
  · next g =>
    cases h
    exact ⟨g.1, rfl, g.2⟩
  · cases h
theorem z_newa (X : zX D cy p s m meth c cc nL own rt) {atype : ArrayType} {t : Nat} (hty : (t = 9 ∧ newarray.typeOf atype = .int) ∨ (t = 10 ∧ newarray.typeOf atype = .long) ∨ (t = 11 ∧ newarray.typeOf atype = .boolean)) (hH : zH D cy A S H) (hS0 : zV A z s.heap H locs) (hA : ∀ q : Nat, z ≤ q → A q) {n : Int32} {k : Nat} (hlg : zlg n = some k) {u : Unit} (hbud : zbud R.cells R.slots q w 1 k = some u) (hdg : decode cc pc = .ok (.newarray atype, 2))
    (kk : ∀ H1 : Heap, zH D cy A (zad S z t k) H1 → zV A (z + 1) s.heap H1 locs → W p l e R s m args below meth c H1 locs (q + 1) (w + k) Q (F0 m (pc + 2) ls (.ref z :: rest))) : W p l e R s m args below meth c H locs q w Q (F0 m pc ls (.int n :: rest)) := by
  obtain ⟨hn, hk, hk2⟩ := zlg_at hlg
  have hb := zbud_at hbud
  obtain ⟨hS, hz⟩ := hS0
  have hzA := X.2.2.2.2.2.2.2.1
  rcases hty with ⟨rfl, ht⟩ | ⟨rfl, ht⟩ | ⟨rfl, ht⟩
  · refine va_newaK X.1 X.2.1 (by rw [ht]; exact z_ac (u := s) rfl hzA.1) rfl hdg rfl hn hk (by rw [ht]; simp only [componentBytes]; omega) hb.1 hb.2 hz fun H1 cA e1 z1 o1 hAr hNm => ?_
    refine kk H1 (hH.add hz (hA z (Nat.le_refl _)) o1 ?_) ⟨⟨Nat.le_trans hS.1 (by omega), fun x g1 g2 => (o1 x (by have := hS.1; omega)).trans (hS.2.1 x g1 g2), hS.2.2⟩, z1⟩
    rw [ht] at hNm e1
    have hcA : cA = cy 9 := Option.some.inj (hNm.symm.trans (X.2.2.2.2.2.2.ty (k := 0) rfl).2)
    subst hcA
    rw [zE_9]
    show H1[z]? = some (vp_cell (cy 9) (k, .inl ((zad S z 9 k).2.1 z)))
    rw [e1, vp_cell_i]
    simp only [zad, zro_eq]
    rfl
  · refine va_newaK X.1 X.2.1 (by rw [ht]; exact z_ac (u := s) rfl hzA.2.1) rfl hdg rfl hn hk (by rw [ht]; simp only [componentBytes]; omega) hb.1 hb.2 hz fun H1 cA e1 z1 o1 hAr hNm => ?_
    refine kk H1 (hH.add hz (hA z (Nat.le_refl _)) o1 ?_) ⟨⟨Nat.le_trans hS.1 (by omega), fun x g1 g2 => (o1 x (by have := hS.1; omega)).trans (hS.2.1 x g1 g2), hS.2.2⟩, z1⟩
    rw [ht] at hNm e1
    have hcA : cA = cy 10 := Option.some.inj (hNm.symm.trans (X.2.2.2.2.2.2.ty (k := 1) rfl).2)
    subst hcA
    rw [zE_10]
    show H1[z]? = some (vp_cell (cy 10) (k, .inr (.inl ((zad S z 10 k).2.2.2 z))))
    rw [e1, vp_cell_l]
    simp only [zad, zro_eq]
    rfl
  · refine va_newaK X.1 X.2.1 (by rw [ht]; exact z_ac (u := s) rfl hzA.2.2.1) rfl hdg rfl hn hk (by rw [ht]; simp only [componentBytes]; omega) hb.1 hb.2 hz fun H1 cA e1 z1 o1 hAr hNm => ?_
    refine kk H1 (hH.add hz (hA z (Nat.le_refl _)) o1 ?_) ⟨⟨Nat.le_trans hS.1 (by omega), fun x g1 g2 => (o1 x (by have := hS.1; omega)).trans (hS.2.1 x g1 g2), hS.2.2⟩, z1⟩
    rw [ht] at hNm e1
    have hcA : cA = cy 11 := Option.some.inj (hNm.symm.trans (X.2.2.2.2.2.2.ty (k := 2) rfl).2)
    subst hcA
    rw [zE_11]
    show H1[z]? = some (vp_cell (cy 11) (k, .inl ((zad S z 11 k).2.1 z)))
    rw [e1, vp_cell_i]
    simp only [zad, zro_eq]
    rfl
theorem z_anew (X : zX D cy p s m meth c cc nL own rt) {idx : Nat} (hlink : Cond.classLink own idx "BuiltTwice$Row" ∈ ztb) (hH : zH D cy A S H) (hS0 : zV A z s.heap H locs) (hA : ∀ q : Nat, z ≤ q → A q) {n : Int32} {k : Nat} (hlg : zlg n = some k) {u : Unit} (hbud : zbud R.cells R.slots q w 1 k = some u) (hdg : decode cc pc = .ok (.anewarray idx, 3))
    (kk : ∀ H1 : Heap, zH D cy A (zad S z 12 k) H1 → zV A (z + 1) s.heap H1 locs → W p l e R s m args below meth c H1 locs (q + 1) (w + k) Q (F0 m (pc + 3) ls (.ref z :: rest))) : W p l e R s m args below meth c H locs q w Q (F0 m pc ls (.int n :: rest)) := by
  obtain ⟨hn, hk, hk2⟩ := zlg_at hlg
  subst hk
  have hb := zbud_at hbud
  obtain ⟨hS, hz⟩ := hS0
  subst hz
  refine W.anew X.1 X.2.1 X.2.2.2.1 (X.ts _ hlink) (va_AO.use X.2.2.2.2.2.2.2.1.2.2.2.1) rfl hdg rfl hn (by omega) hb.1 hb.2 fun cA kA comp f1 f2 f3 f4 => ?_
  generalize hH1 : H.push ({ cls := cA, slots := Array.replicate n.toNatClampNeg .null, vm := .none } : Cell) = H1
  have z1 : H1.size = H.size + 1 := by rw [← hH1, Array.size_push]
  have e1 : H1[H.size]? = some (arrV cA n.toNatClampNeg (fun _ => .null)) := by rw [← hH1, Array.getElem?_push_size, ← arrV_new]
  have o1 : ∀ q : Nat, q < H.size → H1[q]? = H[q]? := fun q hq => by rw [← hH1, Array.getElem?_push, if_neg (Nat.ne_of_lt hq)]
  refine kk H1 (hH.add rfl (hA _ (Nat.le_refl _)) o1 ?_) ⟨⟨Nat.le_trans hS.1 (by omega), fun x g1 g2 => (o1 x (by have := hS.1; omega)).trans (hS.2.1 x g1 g2), hS.2.2⟩, z1⟩
  obtain ⟨kA', comp', k1, k2, k3, k4⟩ := (X.2.2.2.2.2.2.ty (k := 3) rfl).2
  have hcA : cA = cy 12 := Option.some.inj (f1.symm.trans k4)
  subst hcA
  rw [zE_12]
  show H1[H.size]? = some (vp_cell (cy 12) (n.toNatClampNeg, .inr (.inr (.inr (.inr ((zad S H.size 12 n.toNatClampNeg).2.2.1 H.size))))))
  rw [e1, vp_cell_q]
  simp only [zad, zro_eq]
  rfl
theorem z_objInit (X : zX D cy p s m meth c cc nL own rt) {lv : List (Nat × Value)} (hl : lv_has ls nL lv) {idx : Nat} (h1 : Cond.methodLink own idx Lib.objectInit ∈ ztb) (h2 : Cond.instanceMethod Lib.objectInit ∈ ztb) (h3 : Cond.code Lib.objectInit ⟨#[0xb1]⟩ 1 none ∈ ztb) (hf : 1 ≤ R.frames) (hlo : (rest.map fun v => v.category).sum + 12 ≤ R.locals) (hdg : decode cc pc = .ok (.invokespecial idx, 3))
    (kk : W p l e R s m args below meth c H locs q w Q (F0 m (pc + 3) ls rest)) : W p l e R s m args below meth c H locs q w Q (F0 m pc ls (.ref a :: rest)) :=
  W.objInit X.1 X.2.1 X.2.2.2.1 (X.ts _ h1) (X.ts _ h2) (X.ts _ h3) (g := F0 m pc ls (.ref a :: rest)) rfl (hl.1.trans X.2.2.1.symm) rfl hdg hf (by show 2 * 0 + _ + 12 ≤ _; omega) kk
/-- a final field, in a constructor -/
theorem z_putF (X : zX D cy p s m meth c cc nL own rt) (hin2 : meth.name = "<init>") {idx ci k : Nat} {b : Bool} {ty : FieldType} (fl : zFL own idx ci k b) (hb : b = true) (fp : zFP ci k true ty) (hdecl : vwCl[ci]?.map (fun q => q.1) = some own) (hplain : ∃ (C : String) (T : u_T) (N : Nat), vwCl[ci]? = some (C, T, N) ∧ Cond.fieldLink own idx (T k).1 (T k).2.1 (T k).2.2.1 ∈ ztb) (hty : ∀ q : Nat, narrow ty (.ref q) = .ref q ∧ fits ty (.ref q) = true) (hH : zH D cy A S H) (hS0 : zV A z s.heap H locs) {v : Nat} (hg : zpr S a ci k v = some S1) (hdg : decode cc pc = .ok (.putfield idx, 3))
    (kk : ∀ (H1 : Heap) (locs1 : List Loc), zH D cy A S1 H1 → zV A z s.heap H1 locs1 → W p l e R s m args below meth c H1 locs1 q w Q (F0 m (pc + 3) ls rest)) : W p l e R s m args below meth c H locs q w Q (F0 m pc ls (.ref v :: .ref a :: rest)) := by
  subst hb
  unfold zpr at hg
  split at hg
  · next hkd =>
    cases hg
    obtain ⟨n, hk⟩ := zkd hkd
    obtain ⟨C, T, N, hc, hin, hkN, hb, hci, hN, -⟩ := fl
    obtain ⟨C', T', N', ty0, hc', hty1, hnm, hfin, hty0, hTC⟩ := fp
    cases hc.symm.trans hc'
    obtain ⟨C', T', N', hc', hl⟩ := hplain
    cases hc.symm.trans hc'
    have hCo : C = own := by rw [hc] at hdecl; exact Option.some.inj hdecl
    have hx := X.1
    have hcc := X.2.1
    have hown := X.2.2.2.1
    have hts := X.ts (args := args)
    have hK := X.2.2.2.2.2.2.2.2
    have hap := va_apart (own := own) hts hin ty0 hty1 hnm hK hc
    obtain ⟨r, h1, cell, q1, q2, q3, q4⟩ := (hH.obj hk hci) 0 _ rfl
    have hr : r = (C, T, N) := Option.some.inj (h1.symm.trans hc)
    subst hr
    obtain ⟨hS, hfc, kC, hkC, hkind⟩ := hK.1 ci _ hc
    obtain ⟨cf, kf, fi, f, hi, hsl⟩ := hS k hkN
    have hlay := hts _ (hin _ (u_in_lay hkN))
    unfold u_lay at hlay
    rw [if_pos hfin] at hlay
    have hst := (u_facts hfc hkC (u_lays hts hin hkN) hi).1
    have hcf : m.cls = cf := by
      obtain ⟨_, _, c', _, _, _, -, -, hf', -, -, -, hown2, -⟩ := Cond.laysFinal_spec hlay
      have e1 : c' = cf := by have := hi.symm.trans hf'; simp at this; exact this.1.symm
      rw [hTC, hCo] at hown2
      rw [← e1]; exact Option.some.inj (hown.symm.trans hown2)
    have hd : parseFieldDescriptor (T k).2.2.1 = some ty := by rw [hty1 k hkN, hty0]
    have h6 := u_fits hfc hkC hkind (Or.inr hlay) hi hd (hty v).1 (hty v).2
    refine W.putFinK hx hcc hown (hts _ hl) hi hst hcf hin2 (by rw [q2]; exact h6) q1 q3 (by rw [hsl]; exact k2_hasslot (q4 k hkN)) rfl rfl hdg fun H' e1 e2 e3 => ?_
    refine kk H' _ (hH.one (S1 := (S.1, S.2.1, zu S.2.2.1 a k (some v), S.2.2.2)) hk e3 ?_ rfl (fun b c n hb => zE_cong rfl (zu_ne hb) rfl)) (hS0.put e2 e3 (hH a ci n hk).1)
    rw [zE_o hci]
    rw [hsl] at e1
    have hlen : k < (zfs S a ci).length := by simp only [zfs, List.length_mapIdx, hN]; exact hkN
    exact ⟨_, hc, t_OB.to (V := updV (vp_V (zfs S a ci)) k (.ref v)) ⟨_, e1, q2, q3, t_set q4 hap hkN (.ref v)⟩ (fun j _ => (vp_updV_set hlen (.ref v) j).trans (z_fset hc hN hkN (by simp [zfs_at hb, zu, va_rf]) (fun j hj => by simp [zfs, zu, hj]) j))⟩
  · cases hg
/-- a final int, in a constructor -/
theorem z_putFi (X : zX D cy p s m meth c cc nL own rt) (hin2 : meth.name = "<init>") {idx ci k : Nat} {b : Bool} {ty : FieldType} (fl : zFL own idx ci k b) (hb : b = false) (fp : zFP ci k true ty) (hdecl : vwCl[ci]?.map (fun q => q.1) = some own) (hplain : ∃ (C : String) (T : u_T) (N : Nat), vwCl[ci]? = some (C, T, N) ∧ Cond.fieldLink own idx (T k).1 (T k).2.1 (T k).2.2.1 ∈ ztb) (hty : ∀ q : Int32, narrow ty (.int q) = .int q ∧ fits ty (.int q) = true) (hH : zH D cy A S H) (hS0 : zV A z s.heap H locs) {v : Int32} (hg : zpi S a ci k v = some S1) (hdg : decode cc pc = .ok (.putfield idx, 3))
    (kk : ∀ (H1 : Heap) (locs1 : List Loc), zH D cy A S1 H1 → zV A z s.heap H1 locs1 → W p l e R s m args below meth c H1 locs1 q w Q (F0 m (pc + 3) ls rest)) : W p l e R s m args below meth c H locs q w Q (F0 m pc ls (.int v :: .ref a :: rest)) := by
  subst hb
  unfold zpi at hg
  split at hg
  · next hkd =>
    cases hg
    obtain ⟨n, hk⟩ := zkd hkd
    obtain ⟨C, T, N, hc, hin, hkN, hb, hci, hN, -⟩ := fl
    obtain ⟨C', T', N', ty0, hc', hty1, hnm, hfin, hty0, hTC⟩ := fp
    cases hc.symm.trans hc'
    obtain ⟨C', T', N', hc', hl⟩ := hplain
    cases hc.symm.trans hc'
    have hCo : C = own := by rw [hc] at hdecl; exact Option.some.inj hdecl
    have hx := X.1
    have hcc := X.2.1
    have hown := X.2.2.2.1
    have hts := X.ts (args := args)
    have hK := X.2.2.2.2.2.2.2.2
    have hap := va_apart (own := own) hts hin ty0 hty1 hnm hK hc
    obtain ⟨r, h1, cell, q1, q2, q3, q4⟩ := (hH.obj hk hci) 0 _ rfl
    have hr : r = (C, T, N) := Option.some.inj (h1.symm.trans hc)
    subst hr
    obtain ⟨hS, hfc, kC, hkC, hkind⟩ := hK.1 ci _ hc
    obtain ⟨cf, kf, fi, f, hi, hsl⟩ := hS k hkN
    have hlay := hts _ (hin _ (u_in_lay hkN))
    unfold u_lay at hlay
    rw [if_pos hfin] at hlay
    have hst := (u_facts hfc hkC (u_lays hts hin hkN) hi).1
    have hcf : m.cls = cf := by
      obtain ⟨_, _, c', _, _, _, -, -, hf', -, -, -, hown2, -⟩ := Cond.laysFinal_spec hlay
      have e1 : c' = cf := by have := hi.symm.trans hf'; simp at this; exact this.1.symm
      rw [hTC, hCo] at hown2
      rw [← e1]; exact Option.some.inj (hown.symm.trans hown2)
    have hd : parseFieldDescriptor (T k).2.2.1 = some ty := by rw [hty1 k hkN, hty0]
    have h6 := u_fits hfc hkC hkind (Or.inr hlay) hi hd (hty v).1 (hty v).2
    refine W.putFinK hx hcc hown (hts _ hl) hi hst hcf hin2 (by rw [q2]; exact h6) q1 q3 (by rw [hsl]; exact k2_hasslot (q4 k hkN)) rfl rfl hdg fun H' e1 e2 e3 => ?_
    refine kk H' _ (hH.one (S1 := (S.1, zu S.2.1 a k v, S.2.2.1, S.2.2.2)) hk e3 ?_ rfl (fun b c n hb => zE_cong (zu_ne hb) rfl rfl)) (hS0.put e2 e3 (hH a ci n hk).1)
    rw [zE_o hci]
    rw [hsl] at e1
    have hlen : k < (zfs S a ci).length := by simp only [zfs, List.length_mapIdx, hN]; exact hkN
    exact ⟨_, hc, t_OB.to (V := updV (vp_V (zfs S a ci)) k (.int v)) ⟨_, e1, q2, q3, t_set q4 hap hkN (.int v)⟩ (fun j _ => (vp_updV_set hlen (.int v) j).trans (z_fset hc hN hkN (by simp [zfs_at hb, zu, va_rf]) (fun j hj => by simp [zfs, zu, hj]) j))⟩
  · cases hg
/-! returns and calls where cells are counted -/
theorem z_vretA {MC MS : Nat} (X : zX D cy p s m meth c cc nL own none) (hH : zH D cy A S H) (hS0 : zV A z s.heap H locs) {S2 : zS} {z2 : Nat} (h : zfin MC MS q w (S, z) = some (S2, z2)) (hdg : decode cc pc = .ok (.return_, 1)) : W p l e R s m args below meth c H locs q w (MQ below (zQ D cy A S2 z2 none) args s MC MS A) (F0 m pc ls []) := by
  unfold zfin at h
  split at h
  · next g =>
    cases h
    exact W.widen g.1 g.2 (z_vret X hH hS0 rfl hdg)
  · cases h
theorem z_lretA {MC MS : Nat} (X : zX D cy p s m meth c cc nL own (some .long)) (hH : zH D cy A S H) (hS0 : zV A z s.heap H locs) {S2 : zS} {z2 : Nat} {v r : Int64} (h : zfin MC MS q w (v, S, z) = some (r, S2, z2)) (hdg : decode cc pc = .ok (.lreturn, 1)) : W p l e R s m args below meth c H locs q w (MQ below (zQ D cy A S2 z2 (some (.long r))) args s MC MS A) (F0 m pc ls [.long v]) := by
  unfold zfin at h
  split at h
  · next g =>
    cases h
    exact W.widen g.1 g.2 (z_lret X hH hS0 rfl hdg)
  · cases h
variable {y : MethodName} {bytes : ByteArray} {maxL n idx : Nat} {ret : Option FieldType} {rm : Room} {mc ms : Nat} {As st0 : List Value} {S2 : zS} {z2 : Nat} {o : Option Value} {lv : List (Nat × Value)}
def zMI (own : String) (idx : Nat) (y : MethodName) (bytes : ByteArray) (maxL : Nat) (n : Nat) : Prop := (zML own idx y bytes maxL none n ∨ ((∃ host, Cond.methodLinkNest own idx y host ∈ ztb) ∧ Cond.initialized y.cls ∈ ztb ∧ Cond.code y bytes maxL none ∈ ztb ∧ (y.cls ≠ "java/lang/invoke/MethodHandle" ∧ y.cls ≠ "java/lang/invoke/VarHandle") ∧ (parseMethodDescriptor y.desc).map (fun d => d.parameters.length) = some n)) ∧ y.name = "<init>" ∧ Cond.instanceMethod y ∈ ztb
theorem z_cI (X : zX D cy p s m meth c cc nL own rt) (hl : lv_has ls nL lv) (hH : zH D cy A S H) (hS0 : zV A z s.heap H locs) (mv : zMI own idx y bytes maxL n) (hM : Met l y [.code y bytes maxL none] rm (zP D cy A S z (.ref a :: As)) (zQ D cy A S2 z2 none) mc ms A)
    (hn : As.length = n) (hstack : st0 = As.reverse ++ .ref a :: rest) (hW : (rest.map fun v => v.category).sum ≤ 8) (hR : rm.cells = mc ∧ rm.slots = ms ∧ rm.frames + 1 ≤ R.frames ∧ 8 + (maxL + 11) + rm.locals ≤ R.locals) (hf : q + mc ≤ R.cells ∧ w + ms ≤ R.slots) (hdg : decode cc pc = .ok (.invokespecial idx, 3))
    (kk : ∀ (H1 : Heap) (locs1 : List Loc), zH D cy A S2 H1 → zV A z2 s.heap H1 locs1 → W p l e R s m args below meth c H1 locs1 (q + mc) (w + ms) Q (F0 m (pc + 3) ls rest)) : W p l e R s m args below meth c H locs q w Q (F0 m pc ls st0) := by
  obtain ⟨hml, hy1, hin⟩ := mv
  have hk : zK s := X.2.2.2.2.2.2.1
  have hp : PreS s H (zP D cy A S z (.ref a :: As)) (.ref a :: As) := ⟨zP.blind, fun U hU hW => ⟨rfl, by rw [hU]; exact hS0.2, by rw [hU]; exact hH, zT.warm hW X.2.2.2.2.2.2⟩⟩
  rcases hml with hml | ⟨⟨host, h1⟩, h2, h3, h4, h5⟩
  · exact z_run hS0 (va_runI (b := a) (As := As) (rest := rest) (Ts := ztb) (nL := nL) ⟨X.1, X.2.1, X.2.2.1, X.2.2.2.1, X.ts⟩ hM ⟨hml.callB hk hR.1 hR.2.1 hR.2.2, hy1, hk.at hin⟩ hp rfl hn hl.1 hstack (lv_room hW) hdg hf) kk
  · refine z_run hS0 (va_runIN (host := host) (b := a) (As := As) (rest := rest) (Ts := ztb) (nL := nL) ⟨X.1, X.2.1, X.2.2.1, X.2.2.2.1, X.ts⟩ hM ⟨⟨⟨hR.1, hR.2.1, hR.2.2.1, hR.2.2.2, fun w hw a' U hW => ?_, List.mem_cons_self⟩, hk.at h3, hk.at h2, h4, fun sig h => ?_, hk.at h1⟩, hy1, hk.at hin⟩ hp rfl hn hl.1 hstack (lv_room hW) hdg hf) kk
    · rw [List.mem_singleton.mp hw]
      exact zK.at (zK.warm hW hk) h3
    · rw [h] at h5
      exact (Option.some.inj h5).symm
end ZN
