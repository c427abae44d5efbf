/-! rows over the store: one for each instruction that reads or writes it -/
section ZR
variable {p : Program} {l : Launch} {e : Env} {R : Room} {s : State} {m : MethodId} {args : Array Value} {below : List Frame} {meth : Method} {c : Code} {H : Heap} {locs : List Loc} {cells slots : Nat} {Q : State → Prop}
variable {cc : ByteArray} {pc nL : Nat} {ls : Array Slot} {rest : List Value} {D : va_G} {cy : Nat → ClassId} {A : Nat → Prop} {a : Nat} {own : String} {rt : Option FieldType} {S S1 : zS} {z : Nat}
theorem zX.ts (X : zX D cy p s m meth c cc nL own rt) : ∀ w ∈ ztb, w.before args s = true := fun w hw => zK.at X.2.2.2.2.2.2.1 hw
theorem z_getV (X : zX D cy p s m meth c cc nL own rt) {idx ci k : Nat} {b : Bool} (fl : zFL own idx ci k b) (hH : zH D cy A S H) (hk : (S.1 a).map Prod.fst = some ci) {v : Value} (hv : (if b = true then va_rf (S.2.2.1 a k) else .int (S.2.1 a k)) = v) (hdg : decode cc pc = .ok (.getfield idx, 3))
    (kk : W p l e R s m args below meth c H locs cells slots Q (F0 m (pc + 3) ls (v :: rest))) : W p l e R s m args below meth c H locs cells slots Q (F0 m pc ls (.ref a :: rest)) := by
  obtain ⟨n, hk⟩ := zkd hk
  obtain ⟨C, T, N, hc, hin, hkN, hb, hci, -, hl⟩ := fl
  have hv2 : (zfs S a ci)[k]? = some v := by rw [zfs_at hb, hv]
  have hx := X.1
  have hcc := X.2.1
  have hown := X.2.2.2.1
  have hts := X.ts (args := args)
  have hK := X.2.2.2.2.2.2.2.2
  rcases hl with hl | ⟨host, hl⟩
  · exact va_get (D := D) (cl := vwCl) hx hcc hts hin hown hK (hH.obj hk hci) 0 rfl hc k hkN (hts _ hl) (fun _ h => h) hv2 hdg kk
  · exact va_getN (D := D) (cl := vwCl) hx hcc hts hin hown hK (hH.obj hk hci) 0 rfl hc k hkN (hts _ hl) (fun _ h => h) hv2 hdg kk
theorem z_geti (X : zX D cy p s m meth c cc nL own rt) {idx ci k : Nat} (fl : zFL own idx ci k false) (hH : zH D cy A S H) {v : Int32} (hg : zgi S a ci k = some v) (hdg : decode cc pc = .ok (.getfield idx, 3))
    (kk : W p l e R s m args below meth c H locs cells slots Q (F0 m (pc + 3) ls (.int v :: rest))) : W p l e R s m args below meth c H locs cells slots Q (F0 m pc ls (.ref a :: rest)) := by
  unfold zgi at hg
  split at hg
  · next h =>
    cases hg
    exact z_getV X fl hH h rfl hdg kk
  · cases hg
theorem z_getr (X : zX D cy p s m meth c cc nL own rt) {idx ci k : Nat} (fl : zFL own idx ci k true) (hH : zH D cy A S H) {v : Nat} (hg : zgr S a ci k = some v) (hdg : decode cc pc = .ok (.getfield idx, 3))
    (kk : W p l e R s m args below meth c H locs cells slots Q (F0 m (pc + 3) ls (.ref v :: rest))) : W p l e R s m args below meth c H locs cells slots Q (F0 m pc ls (.ref a :: rest)) := by
  unfold zgr at hg
  split at hg
  · next h => exact z_getV X fl hH h (by simp [hg, va_rf]) hdg kk
  · cases hg
/-- the object's cell, changed at a field -/
theorem z_fset {S S1 : zS} {a ci k : Nat} {v : Value} {T : u_T} {C : String} {N : Nat} (hc : vwCl[ci]? = some (C, T, N)) (hN : (zF ci).length = N) (hk : k < N) (hv : (zfs S1 a ci)[k]? = some v) (ho : ∀ j, j ≠ k → (zfs S1 a ci)[j]? = (zfs S a ci)[j]?) : ∀ j, vp_V ((zfs S a ci).set k v) j = vp_V (zfs S1 a ci) j := by
  intro j
  have hl : k < (zfs S a ci).length := by simp only [zfs, List.length_mapIdx, hN]; exact hk
  simp only [vp_V, List.getD_eq_getElem?_getD]
  by_cases hj : j = k
  · subst hj
    rw [List.getElem?_set_self hl, hv]
  · rw [List.getElem?_set_ne (Ne.symm hj), ho j hj]
theorem z_putV (X : zX D cy p s m meth c cc nL own rt) {idx ci k : Nat} {b : Bool} {ty : FieldType} (fl : zFL own idx ci k b) (fp : zFP ci k false ty) (hH : zH D cy A S H) (hS0 : zV A z s.heap H locs) (hk : (S.1 a).map Prod.fst = some ci) {v : Value} (hn : narrow ty v = v) (hfit : fits ty v = true)
    (hv : (zfs S1 a ci)[k]? = some v) (ho : ∀ j, j ≠ k → (zfs S1 a ci)[j]? = (zfs S a ci)[j]?) (hs : S1.1 = S.1) (hoE : ∀ b c n : Nat, b ≠ a → zE cy S1 b c n = zE cy S b c n) (hdg : decode cc pc = .ok (.putfield idx, 3))
    (kk : ∀ (H1 : Heap) (locs1 : List Loc), zH D cy A S1 H1 → zV A z s.heap H1 locs1 → W p l e R s m args below meth c H1 locs1 cells slots Q (F0 m (pc + 3) ls rest)) : W p l e R s m args below meth c H locs cells slots Q (F0 m pc ls (v :: .ref a :: rest)) := by
  obtain ⟨n, hk⟩ := zkd hk
  obtain ⟨C, T, N, hc, hin, hkN, hb, hci, hN, hl⟩ := fl
  obtain ⟨C', T', N', ty0, hc', hty, hnm, hfin, hty0, -⟩ := fp
  cases hc.symm.trans hc'
  have hx := X.1
  have hcc := X.2.1
  have hown := X.2.2.2.1
  have hts := X.ts (args := args)
  have hK := X.2.2.2.2.2.2.2.2
  have hap := va_apart (own := own) hts hin ty0 hty hnm hK hc
  obtain ⟨r, h1, cell, q1, q2, q3, q4⟩ := (hH.obj hk hci) 0 _ rfl
  have hr : r = (C, T, N) := Option.some.inj (h1.symm.trans hc)
  subst hr
  obtain ⟨hS, hfc, kC, hkC, hkind⟩ := hK.1 ci _ hc
  obtain ⟨cf, kf, fi, f, hi, hsl⟩ := hS k hkN
  have hlay := hts _ (hin _ (u_in_lay hkN))
  unfold u_lay at hlay
  rw [if_neg (by rw [hfin]; decide)] at hlay
  have hst := (u_facts hfc hkC (u_lays hts hin hkN) hi).1
  have hd : parseFieldDescriptor (T k).2.2.1 = some ty := by rw [hty k hkN, hty0]
  have h6 := u_store hfc hkC hkind hlay hi hd hn hfit
  have fin : ∀ H' : Heap, H'[a]? = some (cell.setSlot f.slot v) → H'.size = H.size → (∀ q, q ≠ a → H'[q]? = H[q]?) → W p l e R s m args below meth c H' (locs ++ [⟨a, f.slot⟩]) cells slots Q (F0 m (pc + 3) ls rest) := by
    intro H' e1 e2 e3
    refine kk H' _ (hH.one hk e3 ?_ hs hoE) (hS0.put e2 e3 (hH a ci n hk).1)
    rw [zE_o hci]
    rw [hsl] at e1
    have hlen : k < (zfs S a ci).length := by simp only [zfs, List.length_mapIdx, hN]; exact hkN
    exact ⟨_, hc, t_OB.to (V := updV (vp_V (zfs S a ci)) k v) ⟨_, e1, q2, q3, t_set q4 hap hkN v⟩ (fun j _ => (vp_updV_set hlen v j).trans (z_fset hc hN hkN hv ho j))⟩
  rcases hl with hl | ⟨host, hl⟩
  · exact W.putK hx hcc (f := f) ⟨hown, hts _ hl, ⟨_, _, _, hi⟩, hst⟩ (by rw [q2]; exact h6) q1 q3 (by rw [hsl]; exact k2_hasslot (q4 k hkN)) rfl rfl hdg fin
  · exact va_WputK hx hcc (f := f) hown (hts _ hl) hi hst (by rw [q2]; exact h6) q1 q3 (by rw [hsl]; exact k2_hasslot (q4 k hkN)) rfl rfl hdg fin
theorem z_puti (X : zX D cy p s m meth c cc nL own rt) {idx ci k : Nat} (fl : zFL own idx ci k false) (fp : zFP ci k false .int) (hH : zH D cy A S H) (hS0 : zV A z s.heap H locs) {v : Int32} (hg : zpi S a ci k v = some S1) (hdg : decode cc pc = .ok (.putfield idx, 3))
    (kk : ∀ (H1 : Heap) (locs1 : List Loc), zH D cy A S1 H1 → zV A z s.heap H1 locs1 → W p l e R s m args below meth c H1 locs1 cells slots Q (F0 m (pc + 3) ls rest)) : W p l e R s m args below meth c H locs cells slots Q (F0 m pc ls (.int v :: .ref a :: rest)) := by
  unfold zpi at hg
  split at hg
  · next h =>
    cases hg
    obtain ⟨C, T, N, hc, hin, hkN, hb, hci, hN, hl⟩ := id fl
    refine z_putV (S1 := (S.1, zu S.2.1 a k v, S.2.2.1, S.2.2.2)) X fl fp hH hS0 h rfl rfl (by simp [zfs_at hb, zu]) (fun j hj => ?_) rfl (fun b c n hb => zE_cong (zu_ne hb) rfl rfl) hdg kk
    simp [zfs, zu, hj]
  · cases hg
theorem z_putr (X : zX D cy p s m meth c cc nL own rt) {idx ci k : Nat} {ty : FieldType} (fl : zFL own idx ci k true) (fp : zFP ci k false ty) (hty : ∀ q : Nat, narrow ty (.ref q) = .ref q ∧ fits ty (.ref q) = true) (hH : zH D cy A S H) (hS0 : zV A z s.heap H locs) {v : Nat} (hg : zpr S a ci k v = some S1) (hdg : decode cc pc = .ok (.putfield idx, 3))
    (kk : ∀ (H1 : Heap) (locs1 : List Loc), zH D cy A S1 H1 → zV A z s.heap H1 locs1 → W p l e R s m args below meth c H1 locs1 cells slots Q (F0 m (pc + 3) ls rest)) : W p l e R s m args below meth c H locs cells slots Q (F0 m pc ls (.ref v :: .ref a :: rest)) := by
  unfold zpr at hg
  split at hg
  · next h =>
    cases hg
    obtain ⟨C, T, N, hc, hin, hkN, hb, hci, hN, hl⟩ := id fl
    refine z_putV (S1 := (S.1, S.2.1, zu S.2.2.1 a k (some v), S.2.2.2)) X fl fp hH hS0 h (hty v).1 (hty v).2 (by simp [zfs_at hb, zu, va_rf]) (fun j hj => ?_) rfl (fun b c n hb => zE_cong rfl (zu_ne hb) rfl) hdg kk
    simp [zfs, zu, hj]
  · cases hg
/-! arrays -/
theorem zH.arr (hH : zH D cy A S H) {t n : Nat} (hk : S.1 a = some (t, n)) (ht : 9 ≤ t) {x : vp_A} (hx : zE cy S a t n = .inl (cy t, x)) : H[a]? = some (vp_cell (cy t) x) := by
  have h := (hH a t n hk).2
  rw [hx] at h
  exact h
theorem zE_9 {n : Nat} : zE cy S a 9 n = .inl (cy 9, n, .inl (S.2.1 a)) := by simp [zE]
theorem zE_10 {n : Nat} : zE cy S a 10 n = .inl (cy 10, n, .inr (.inl (S.2.2.2 a))) := by simp [zE]
theorem zE_11 {n : Nat} : zE cy S a 11 n = .inl (cy 11, n, .inl (S.2.1 a)) := by simp [zE]
theorem zE_12 {n : Nat} : zE cy S a 12 n = .inl (cy 12, n, .inr (.inr (.inr (.inr (S.2.2.1 a))))) := by simp [zE]
theorem zE_13 {n : Nat} : zE cy S a 13 n = .inl (cy 13, n, .inr (.inr (.inr (.inr (S.2.2.1 a))))) := by simp [zE]
theorem zT.ty (h : zT D cy s) {k : Nat} {q : ClassId × FieldType} (hk : (ztys cy)[k]? = some q) : ArrOfT s q.1 q.2 ∧ va_RA s q.1 q.2 := h.2.2.2 k q hk
theorem z_iald (X : zX D cy p s m meth c cc nL own rt) (hH : zH D cy A S H) {i v : Int32} (hg : zil S a i = some v) (hdg : decode cc pc = .ok (.iaload, 1))
    (kk : W p l e R s m args below meth c H locs cells slots Q (F0 m (pc + 1) ls (.int v :: rest))) : W p l e R s m args below meth c H locs cells slots Q (F0 m pc ls (.int i :: .ref a :: rest)) := by
  unfold zil at hg
  split at hg
  · next h =>
    cases hg
    obtain ⟨n, hk, hin⟩ := zok_at h
    have hlt : i.toNatClampNeg < n := Nat.not_le.mp fun q => hin (Or.inr q)
    exact W.iald (v := .int (S.2.1 a i.toNatClampNeg)) X.1 X.2.1 (hH.arr hk (by decide) zE_9) ((X.2.2.2.2.2.2.ty (k := 0) rfl).1 n (fun j => .int (S.2.1 a j))) (fun q => by cases q) (by show ¬ (i < 0 ∨ (arrV _ _ _).slots.size ≤ _); rw [arrV_size]; exact hin) (by show (arrV _ _ _).slots[_]? = _; rw [arrV_read _ _ hlt]) rfl rfl hdg kk
  · cases hg
theorem z_zald (X : zX D cy p s m meth c cc nL own rt) (hH : zH D cy A S H) {i v : Int32} (hg : zzl S a i = some v) (hdg : decode cc pc = .ok (.baload, 1))
    (kk : W p l e R s m args below meth c H locs cells slots Q (F0 m (pc + 1) ls (.int v :: rest))) : W p l e R s m args below meth c H locs cells slots Q (F0 m pc ls (.int i :: .ref a :: rest)) := by
  unfold zzl at hg
  split at hg
  · next h =>
    cases hg
    obtain ⟨n, hk, hin⟩ := zok_at h
    have hlt : i.toNatClampNeg < n := Nat.not_le.mp fun q => hin (Or.inr q)
    exact W.zald (v := .int (S.2.1 a i.toNatClampNeg)) X.1 X.2.1 (hH.arr hk (by decide) zE_11) ((X.2.2.2.2.2.2.ty (k := 2) rfl).1 n (fun j => .int (S.2.1 a j))) (fun q => by cases q) (by show ¬ (i < 0 ∨ (arrV _ _ _).slots.size ≤ _); rw [arrV_size]; exact hin) (by show (arrV _ _ _).slots[_]? = _; rw [arrV_read _ _ hlt]) rfl rfl hdg kk
  · cases hg
theorem z_lald (X : zX D cy p s m meth c cc nL own rt) (hH : zH D cy A S H) {i : Int32} {v : Int64} (hg : zll S a i = some v) (hdg : decode cc pc = .ok (.laload, 1))
    (kk : W p l e R s m args below meth c H locs cells slots Q (F0 m (pc + 1) ls (.long v :: rest))) : W p l e R s m args below meth c H locs cells slots Q (F0 m pc ls (.int i :: .ref a :: rest)) := by
  unfold zll at hg
  split at hg
  · next h =>
    cases hg
    obtain ⟨n, hk, hin⟩ := zok_at h
    have hlt : i.toNatClampNeg < n := Nat.not_le.mp fun q => hin (Or.inr q)
    exact W.lald (v := .long (S.2.2.2 a i.toNatClampNeg)) X.1 X.2.1 (hH.arr hk (by decide) zE_10) ((X.2.2.2.2.2.2.ty (k := 1) rfl).1 n (fun j => .long (S.2.2.2 a j))) (fun q => by cases q) (by show ¬ (i < 0 ∨ (arrV _ _ _).slots.size ≤ _); rw [arrV_size]; exact hin) (by show (arrV _ _ _).slots[_]? = _; rw [arrV_read _ _ hlt]) rfl rfl hdg kk
  · cases hg
theorem z_aald (X : zX D cy p s m meth c cc nL own rt) (hH : zH D cy A S H) (t : Nat) (ht : t = 12 ∨ t = 13) {i : Int32} {v : Nat} (hg : zal S a t i = some v) (hdg : decode cc pc = .ok (.aaload, 1))
    (kk : W p l e R s m args below meth c H locs cells slots Q (F0 m (pc + 1) ls (.ref v :: rest))) : W p l e R s m args below meth c H locs cells slots Q (F0 m pc ls (.int i :: .ref a :: rest)) := by
  unfold zal at hg
  split at hg
  · next h =>
    obtain ⟨n, hk, hin⟩ := zok_at h
    have hlt : i.toNatClampNeg < n := Nat.not_le.mp fun q => hin (Or.inr q)
    have hv : va_rf (S.2.2.1 a i.toNatClampNeg) = .ref v := by rw [hg]; rfl
    rcases ht with rfl | rfl
    · exact W.aald (v := .ref v) (ty := .object "BuiltTwice$Row") X.1 X.2.1 (hH.arr hk (by decide) zE_12) ((X.2.2.2.2.2.2.ty (k := 3) rfl).1 n (fun j => va_rf (S.2.2.1 a j))) rfl (fun q => by cases q) (by show ¬ (i < 0 ∨ (arrV _ _ _).slots.size ≤ _); rw [arrV_size]; exact hin) (by show (arrV _ _ _).slots[_]? = _; rw [arrV_read _ _ hlt, hv]) rfl rfl hdg kk
    · exact W.aald (v := .ref v) (ty := .array .int) X.1 X.2.1 (hH.arr hk (by decide) zE_13) ((X.2.2.2.2.2.2.ty (k := 4) rfl).1 n (fun j => va_rf (S.2.2.1 a j))) rfl (fun q => by cases q) (by show ¬ (i < 0 ∨ (arrV _ _ _).slots.size ≤ _); rw [arrV_size]; exact hin) (by show (arrV _ _ _).slots[_]? = _; rw [arrV_read _ _ hlt, hv]) rfl rfl hdg kk
  · cases hg
theorem z_alen (X : zX D cy p s m meth c cc nL own rt) (hH : zH D cy A S H) (t : Nat) (ht : t = 9 ∨ t = 10) {v : Int32} (hg : zln S a t = some v) (hdg : decode cc pc = .ok (.arraylength, 1))
    (kk : W p l e R s m args below meth c H locs cells slots Q (F0 m (pc + 1) ls (.int v :: rest))) : W p l e R s m args below meth c H locs cells slots Q (F0 m pc ls (.ref a :: rest)) := by
  unfold zln at hg
  cases hs : S.1 a with
  | none => rw [hs] at hg; cases hg
  | some q =>
    obtain ⟨t', n⟩ := q
    rw [hs] at hg
    dsimp only at hg
    split at hg
    · next h =>
      subst h
      cases hg
      rcases ht with rfl | rfl
      · exact W.alen (n := Int32.ofNat n) X.1 X.2.1 (hH.arr hs (by decide) zE_9) ((X.2.2.2.2.2.2.ty (k := 0) rfl).1 n (fun j => .int (S.2.1 a j))) (by rw [vp_cell_i, arrV_size] <;> rfl) rfl rfl hdg kk
      · exact W.alen (n := Int32.ofNat n) X.1 X.2.1 (hH.arr hs (by decide) zE_10) ((X.2.2.2.2.2.2.ty (k := 1) rfl).1 n (fun j => .long (S.2.2.2 a j))) (by rw [vp_cell_l, arrV_size] <;> rfl) rfl rfl hdg kk
    · cases hg
theorem z_iast (X : zX D cy p s m meth c cc nL own rt) (hH : zH D cy A S H) (hS0 : zV A z s.heap H locs) {i v : Int32} (hg : zis S a i v = some S1) (hdg : decode cc pc = .ok (.iastore, 1))
    (kk : ∀ (H1 : Heap) (locs1 : List Loc), zH D cy A S1 H1 → zV A z s.heap H1 locs1 → W p l e R s m args below meth c H1 locs1 cells slots Q (F0 m (pc + 1) ls rest)) : W p l e R s m args below meth c H locs cells slots Q (F0 m pc ls (.int v :: .int i :: .ref a :: rest)) := by
  unfold zis at hg
  split at hg
  · next h =>
    cases hg
    obtain ⟨n, hk, hin⟩ := zok_at h
    refine W.iast X.1 X.2.1 (hH.arr hk (by decide) zE_9) ((X.2.2.2.2.2.2.ty (k := 0) rfl).1 n (fun j => .int (S.2.1 a j))) (fun q => by cases q) (by show ¬ (i < 0 ∨ (arrV _ _ _).slots.size ≤ _); rw [arrV_size]; exact hin) rfl rfl hdg fun H1 e z9 oq => ?_
    refine kk H1 _ (hH.one hk oq ?_ rfl (fun b c n hb => zE_cong (zu_ne hb) rfl rfl)) (hS0.put z9 oq (hH a 9 n hk).1)
    rw [zE_9]
    show H1[a]? = some (vp_cell _ _)
    rw [e, vp_cell_i, vp_cell_i, arrV_store]
    congr 2
    funext q
    by_cases hq : q = i.toNatClampNeg
    · subst hq
      simp [updV, zu]
    · simp [updV, zu, hq]
  · cases hg
theorem z_zast (X : zX D cy p s m meth c cc nL own rt) (hH : zH D cy A S H) (hS0 : zV A z s.heap H locs) {i v : Int32} (hg : zzs S a i v = some S1) (hdg : decode cc pc = .ok (.bastore, 1))
    (kk : ∀ (H1 : Heap) (locs1 : List Loc), zH D cy A S1 H1 → zV A z s.heap H1 locs1 → W p l e R s m args below meth c H1 locs1 cells slots Q (F0 m (pc + 1) ls rest)) : W p l e R s m args below meth c H locs cells slots Q (F0 m pc ls (.int v :: .int i :: .ref a :: rest)) := by
  unfold zzs at hg
  split at hg
  · next h =>
    cases hg
    obtain ⟨n, hk, hin⟩ := zok_at h
    refine W.zast X.1 X.2.1 (hH.arr hk (by decide) zE_11) ((X.2.2.2.2.2.2.ty (k := 2) rfl).1 n (fun j => .int (S.2.1 a j))) (fun q => by cases q) (by show ¬ (i < 0 ∨ (arrV _ _ _).slots.size ≤ _); rw [arrV_size]; exact hin) rfl rfl hdg fun H1 e z9 oq => ?_
    refine kk H1 _ (hH.one hk oq ?_ rfl (fun b c n hb => zE_cong (zu_ne hb) rfl rfl)) (hS0.put z9 oq (hH a 11 n hk).1)
    rw [zE_11]
    show H1[a]? = some (vp_cell _ _)
    rw [e, vp_cell_i, vp_cell_i, arrV_store]
    congr 2
    funext q
    by_cases hq : q = i.toNatClampNeg
    · subst hq
      simp [updV, zu]
      try rfl
    · simp [updV, zu, hq]
  · cases hg
theorem z_last (X : zX D cy p s m meth c cc nL own rt) (hH : zH D cy A S H) (hS0 : zV A z s.heap H locs) {i : Int32} {v : Int64} (hg : zls S a i v = some S1) (hdg : decode cc pc = .ok (.lastore, 1))
    (kk : ∀ (H1 : Heap) (locs1 : List Loc), zH D cy A S1 H1 → zV A z s.heap H1 locs1 → W p l e R s m args below meth c H1 locs1 cells slots Q (F0 m (pc + 1) ls rest)) : W p l e R s m args below meth c H locs cells slots Q (F0 m pc ls (.long v :: .int i :: .ref a :: rest)) := by
  unfold zls at hg
  split at hg
  · next h =>
    cases hg
    obtain ⟨n, hk, hin⟩ := zok_at h
    refine W.last X.1 X.2.1 (hH.arr hk (by decide) zE_10) ((X.2.2.2.2.2.2.ty (k := 1) rfl).1 n (fun j => .long (S.2.2.2 a j))) (fun q => by cases q) (by show ¬ (i < 0 ∨ (arrV _ _ _).slots.size ≤ _); rw [arrV_size]; exact hin) rfl rfl hdg fun H1 e z9 oq => ?_
    refine kk H1 _ (hH.one hk oq ?_ rfl (fun b c n hb => zE_cong rfl rfl (zu_ne hb))) (hS0.put z9 oq (hH a 10 n hk).1)
    rw [zE_10]
    show H1[a]? = some (vp_cell _ _)
    rw [e, vp_cell_l, vp_cell_l, arrV_store]
    congr 2
    funext q
    by_cases hq : q = i.toNatClampNeg
    · subst hq
      simp [updV, zu]
    · simp [updV, zu, hq]
  · cases hg
theorem z_aast (X : zX D cy p s m meth c cc nL own rt) (hH : zH D cy A S H) (hS0 : zV A z s.heap H locs) {i : Int32} {v : Nat} (hg : zas S a i v = some S1) (hdg : decode cc pc = .ok (.aastore, 1))
    (kk : ∀ (H1 : Heap) (locs1 : List Loc), zH D cy A S1 H1 → zV A z s.heap H1 locs1 → W p l e R s m args below meth c H1 locs1 cells slots Q (F0 m (pc + 1) ls rest)) : W p l e R s m args below meth c H locs cells slots Q (F0 m pc ls (.ref v :: .int i :: .ref a :: rest)) := by
  unfold zas at hg
  split at hg
  · next h =>
    cases hg
    obtain ⟨n, hk, hin⟩ := zok_at h.1
    obtain ⟨n5, hk5⟩ := zkd h.2
    have hlt : i.toNatClampNeg < n := Nat.not_le.mp fun q => hin (Or.inr q)
    have h0 : ¬ i < 0 := fun q => hin (Or.inl q)
    obtain ⟨r', hr', cellV, g1, g2, g3, -⟩ := (hH.obj hk5 (by decide)) 0 _ rfl
    have hcls := (X.2.2.2.2.2.2.2.2.1 5 (RX5, TX5, 3) rfl).2
    obtain ⟨kA, comp, k1, k2, k3, -⟩ := (X.2.2.2.2.2.2.ty (k := 3) rfl).2
    have hcomp : comp = D.1 5 := Option.some.inj (k3.symm.trans hcls.1)
    subst hcomp
    obtain ⟨kC, hkC, -⟩ := hcls.2
    refine W.aast X.1 X.2.1 (hH.arr hk (by decide) zE_12) (fun q h => by cases h) (fun h => by cases h) k1 k2 rfl hkC ⟨h0, by show _ < (arrV _ _ _).slots.size; rw [arrV_size]; exact hlt⟩ g1 (fun q h => by rw [g3] at h; cases h) (by rw [g2]; exact hkC) (by rw [g2]; exact va_assign hcls) rfl rfl hdg fun H1 e z9 oq => ?_
    refine kk H1 _ (hH.one hk oq ?_ rfl (fun b c n hb => zE_cong rfl (zu_ne hb) rfl)) (hS0.put z9 oq (hH a 12 n hk).1)
    rw [zE_12]
    show H1[a]? = some (vp_cell _ _)
    rw [e, vp_cell_q, vp_cell_q, arrV_store]
    congr 2
    funext q
    by_cases hq : q = i.toNatClampNeg
    · subst hq
      simp [updV, zu, va_rf]
    · simp [updV, zu, hq]
  · cases hg
end ZR
