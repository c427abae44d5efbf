section ZC
variable {p : Program} {l : Launch} {e : Env} {R : Room} {s : State} {m : MethodId} {args : Array Value} {below : List Frame} {meth : Method} {c : Code} {H : Heap} {locs : List Loc} {cells slots : Nat} {Q : State → Prop}
variable {cc : ByteArray} {pc nL : Nat} {ls : Array Slot} {rest : List Value} {D : va_G} {cy : Nat → ClassId} {A : Nat → Prop} {a : Nat} {own : String} {rt : Option FieldType} {S S1 : zS} {z : Nat}
theorem z_nn {x : Int32} (hz : ¬ x < 0) : x.toInt = (x.toNatClampNeg : Int) := by
  have hz0 : (0 : Int) ≤ x.toInt := by
    have := Int32.not_lt.mp hz
    simpa using Int32.le_iff_toInt_le.mp this
  show x.toInt = ((x.toInt.toNat : Nat) : Int)
  omega
/-- System.arraycopy between int arrays -/
theorem z_copy (X : zX D cy p s m meth c cc nL own rt) {lv : List (Nat × Value)} (hl : lv_has ls nL lv) (hH : zH D cy A S H) (hS0 : zV A z s.heap H locs) {a0 : Nat} {sp dp n : Int32} (hg : zcp S a0 sp a dp n = some S1) {idx : Nat} (hlink : Cond.methodLink own idx arraycopyName ∈ ztb) (hnat : Cond.native arraycopyName ∈ ztb) (hstat : Cond.static arraycopyName ∈ ztb) (hini : Cond.initialized "java/lang/System" ∈ ztb)
    (hframes : 1 ≤ R.frames) (hlocals : (rest.map fun v => v.category).sum + (nativeFrameWords "java/lang/System" "arraycopy" 5 + 11) ≤ R.locals) (hdg : decode cc pc = .ok (.invokestatic idx, 3))
    (kk : ∀ (H1 : Heap) (locs1 : List Loc), zH D cy A S1 H1 → zV A z s.heap H1 locs1 → W p l e R s m args below meth c H1 locs1 cells slots Q (F0 m (pc + 3) ls rest)) : W p l e R s m args below meth c H locs cells slots Q (F0 m pc ls (.int n :: .int dp :: .ref a :: .int sp :: .ref a0 :: rest)) := by
  unfold zcp at hg
  cases hs0 : S.1 a0 with
  | none => rw [hs0] at hg; cases hg
  | some q0 =>
  cases hs1 : S.1 a with
  | none => rw [hs0, hs1] at hg; cases hg
  | some q1 =>
  obtain ⟨t0, n0⟩ := q0
  obtain ⟨t1, n1⟩ := q1
  rw [hs0, hs1] at hg
  dsimp only at hg
  split at hg
  · next h =>
    obtain ⟨g0, g1, h1, h2, h3, h4, h5⟩ := h
    subst g0
    subst g1
    cases hg
    have hts := X.ts (args := args)
    intro T hT X0
    have hc0 : H[a0]? = some (vp_cell (cy 9) (n0, .inl (S.2.1 a0))) := hH.arr hs0 (by decide) zE_9
    have hc1 : H[a]? = some (vp_cell (cy 9) (n1, .inl (S.2.1 a))) := hH.arr hs1 (by decide) zE_9
    obtain ⟨-, k0, hk0, cm0, hkk0⟩ := (X.2.2.2.2.2.2.ty (k := 0) rfl).1 n0 (fun j => .int (S.2.1 a0 j))
    obtain ⟨-, k1, hk1, cm1, hkk1⟩ := (X.2.2.2.2.2.2.ty (k := 0) rfl).1 n1 (fun j => .int (S.2.1 a j))
    obtain ⟨vm', X', step⟩ := X0.arraycopy X.1 X.2.2.2.1 (hts _ hlink) (hts _ hnat) (hts _ hstat) (hts _ hini) (src := a0) (dst := a) (cs := vp_cell (cy 9) (n0, .inl (S.2.1 a0))) (cd := vp_cell (cy 9) (n1, .inl (S.2.1 a))) (srcPos := sp) (destPos := dp) (n := n) (by rw [hT]; exact hc0) (by rw [hT]; exact hc1)
      (fun _ h => by cases h) (fun _ h => by cases h) (fun h => by cases h) (fun h => by cases h) hk0 hk1 hkk0 hkk1 (by rfl) h1 h2 h3
      (by rw [z_nn h1, z_nn h3]; show ¬ _ > ((arrV (cy 9) n0 (fun j => .int (S.2.1 a0 j))).slots.size : Int); rw [arrV_size]; omega)
      (by rw [z_nn h2, z_nn h3]; show ¬ _ > ((arrV (cy 9) n1 (fun j => .int (S.2.1 a j))).slots.size : Int); rw [arrV_size]; omega)
      (fun vm₁ _ i hi => by
        have e : (vp_cell (cy 9) (n0, .inl (S.2.1 a0))).slots.getD (sp.toNatClampNeg + i) .null = .int (S.2.1 a0 (sp.toNatClampNeg + i)) := by
          show (arrV (cy 9) n0 (fun j => .int (S.2.1 a0 j))).slots.getD _ _ = _
          rw [Array.getD_eq_getD_getElem?, arrV_read _ _ (by omega)]
          rfl
        refine ⟨?_, ?_⟩
        · rw [e]
          rfl
        · rw [e]
          exact trivial)
      (g := F0 m pc ls (.int n :: .int dp :: .ref a :: .int sp :: .ref a0 :: rest)) rfl (hl.1.trans X.2.2.1.symm) (rest := rest) rfl (by rw [X.2.1]; exact hdg) hframes (by show 2 * 0 + _ + _ ≤ _; omega)
    have e1 : copied (vp_cell (cy 9) (n0, .inl (S.2.1 a0))) (vp_cell (cy 9) (n1, .inl (S.2.1 a))) sp dp n = vp_cell (cy 9) (n1, .inl (va_cpy (S.2.1 a0) (S.2.1 a) sp.toNatClampNeg dp.toNatClampNeg n.toNatClampNeg)) := va_copied (fun z => .int z) (cy 9) (cy 9) (S.2.1 a0) (S.2.1 a) h4
    rw [e1] at X' step
    have hla : a < H.size := (Array.getElem?_eq_some_iff.mp hc1).1
    have hheap : ((T.setVm vm').setCell a (vp_cell (cy 9) (n1, .inl (va_cpy (S.2.1 a0) (S.2.1 a) sp.toNatClampNeg dp.toNatClampNeg n.toNatClampNeg)))).heap = H.setIfInBounds a (vp_cell (cy 9) (n1, .inl (va_cpy (S.2.1 a0) (S.2.1 a) sp.toNatClampNeg dp.toNatClampNeg n.toNatClampNeg))) := by rw [← hT]; rfl
    have oq : ∀ q : Nat, q ≠ a → (H.setIfInBounds a (vp_cell (cy 9) (n1, .inl (va_cpy (S.2.1 a0) (S.2.1 a) sp.toNatClampNeg dp.toNatClampNeg n.toNatClampNeg))))[q]? = H[q]? := fun q hq => by simp [Array.getElem?_setIfInBounds, Ne.symm hq]
    have hA := (hH a 9 n1 hs1).1
    have hone : zH D cy A (S.1, zro S.2.1 a (va_cpy (S.2.1 a0) (S.2.1 a) sp.toNatClampNeg dp.toNatClampNeg n.toNatClampNeg), S.2.2.1, S.2.2.2) (H.setIfInBounds a (vp_cell (cy 9) (n1, .inl (va_cpy (S.2.1 a0) (S.2.1 a) sp.toNatClampNeg dp.toNatClampNeg n.toNatClampNeg)))) := by
      refine hH.one hs1 oq ?_ rfl (fun b c n hb => zE_cong (zro_ne hb) rfl rfl)
      rw [zE_9]
      show (H.setIfInBounds a _)[a]? = some (vp_cell (cy 9) (n1, .inl (zro S.2.1 a _ a)))
      rw [zro_eq]
      simp [Array.getElem?_setIfInBounds, hla]
    obtain ⟨t, a1, b1⟩ := kk _ _ hone ⟨⟨by simp; exact hS0.1.1, fun q g1 g2 => by
        rw [oq q (fun e => g2 (by rw [e]; exact hA))]
        exact hS0.1.2.1 q g1 g2, fun q hq => by
        rcases List.mem_append.mp hq with h | h
        · exact hS0.1.2.2 q h
        · obtain ⟨z, -, hz⟩ := List.mem_map.mp h
          rw [← hz]
          exact hA⟩, by simp; exact hS0.2⟩ _ hheap X'
    exact ⟨t, step t a1, b1⟩
  · cases hg
/-! returns -/
theorem z_iret (X : zX D cy p s m meth c cc nL own (some .int)) (hH : zH D cy A S H) (hS0 : zV A z s.heap H locs) {v r : Int32} {S2 : zS} (h : some (v, S) = some (r, S2)) (hdg : decode cc pc = .ok (.ireturn, 1)) : W p l e R s m args below meth c H locs cells slots (MQ below (zQ D cy A S2 z (some (.int r))) args s cells slots A) (F0 m pc ls [.int v]) := by
  cases h
  exact W.iret X.1 X.2.1 X.2.2.2.2.1 (fun t ht hW => ⟨rfl, by rw [ht]; exact hS0.2, by rw [ht]; exact hH, zT.warm hW X.2.2.2.2.2.2, hS0.1.F ht⟩) hS0.1.2.2 hdg X.2.2.2.2.2.1
theorem z_lret (X : zX D cy p s m meth c cc nL own (some .long)) (hH : zH D cy A S H) (hS0 : zV A z s.heap H locs) {v r : Int64} {S2 : zS} (h : some (v, S) = some (r, S2)) (hdg : decode cc pc = .ok (.lreturn, 1)) : W p l e R s m args below meth c H locs cells slots (MQ below (zQ D cy A S2 z (some (.long r))) args s cells slots A) (F0 m pc ls [.long v]) := by
  cases h
  exact W.lret X.1 X.2.1 X.2.2.2.2.1 (fun t ht hW => ⟨rfl, by rw [ht]; exact hS0.2, by rw [ht]; exact hH, zT.warm hW X.2.2.2.2.2.2, hS0.1.F ht⟩) hS0.1.2.2 hdg X.2.2.2.2.2.1
theorem z_vret (X : zX D cy p s m meth c cc nL own none) (hH : zH D cy A S H) (hS0 : zV A z s.heap H locs) {S2 : zS} (h : some S = some S2) (hdg : decode cc pc = .ok (.return_, 1)) : W p l e R s m args below meth c H locs cells slots (MQ below (zQ D cy A S2 z none) args s cells slots A) (F0 m pc ls []) := by
  cases h
  exact W.vret X.1 X.2.1 X.2.2.2.2.1 (fun t ht hW => ⟨rfl, by rw [ht]; exact hS0.2, by rw [ht]; exact hH, zT.warm hW X.2.2.2.2.2.2, hS0.1.F ht⟩) hS0.1.2.2 hdg X.2.2.2.2.2.1
theorem z_aret {rf : FieldType} (X : zX D cy p s m meth c cc nL own (some rf)) (hrf : (∃ n, rf = .object n) ∨ ∃ t, rf = .array t) (hH : zH D cy A S H) (hS0 : zV A z s.heap H locs) {v r : Nat} {S2 : zS} (h : some (v, S) = some (r, S2)) (hdg : decode cc pc = .ok (.areturn, 1)) : W p l e R s m args below meth c H locs cells slots (MQ below (zQ D cy A S2 z (some (.ref r))) args s cells slots A) (F0 m pc ls [.ref v]) := by
  cases h
  exact W.aret X.1 X.2.1 X.2.2.2.2.1 hrf (Or.inr ⟨_, rfl⟩) (fun t ht hW => ⟨rfl, by rw [ht]; exact hS0.2, by rw [ht]; exact hH, zT.warm hW X.2.2.2.2.2.2, hS0.1.F ht⟩) hS0.1.2.2 hdg X.2.2.2.2.2.1
/-- a boolean answer keeps its last bit -/
theorem z_zret (X : zX D cy p s m meth c cc nL own (some .boolean)) (hH : zH D cy A S H) (hS0 : zV A z s.heap H locs) {v r : Int32} {S2 : zS} (h : some (v &&& 1, S) = some (r, S2)) (hdg : decode cc pc = .ok (.ireturn, 1)) : W p l e R s m args below meth c H locs cells slots (MQ below (zQ D cy A S2 z (some (.int r))) args s cells slots A) (F0 m pc ls [.int v]) := by
  cases h
  have hr := X.2.2.2.2.1
  have hexec := X.1
  have hb := X.2.1
  have hlocks : meth.locks = false := X.2.2.2.2.2.1
  have hn : narrow .boolean (.int v) = .int (v &&& 1) := rfl
  intro T hT X0
  obtain ⟨fs, hret, hrun, hended, hW, hframe⟩ := X0.leave (v := some (.int (v &&& 1))) (fun h => by rw [hr] at h; cases h)
  have hmeth' : T.vm.method? m = some meth := X0.method'
  refine ⟨T.setFrames fs, ?_, .returned (some (.int (v &&& 1))), hrun, hended, ⟨rfl, by show T.heap.size = z; rw [hT]; exact hS0.2, by show zH D cy A S T.heap; rw [hT]; exact hH, zT.warm hW X.2.2.2.2.2.2, hS0.1.F (t := T.setFrames fs) hT⟩, locs, ⟨⟨_, rfl⟩, hW, hframe⟩, hS0.1.2.2⟩
  jvm_step X0.here [X0.here.top, hexec, hb, hdg, hmeth', hr, hn]
  (try refine ⟨rfl, ?_⟩); (try refine ⟨rfl, ?_⟩)
  first | (intro acts; rw [hret _ acts rfl rfl rfl]) | rw [hret _ _ rfl rfl rfl]
  exact Steps.refl _
/-! calls -/
/-- what a call needs of the tables: link, code, class -/
def zML (own : String) (idx : Nat) (y : MethodName) (bytes : ByteArray) (maxL : Nat) (ret : Option FieldType) (n : Nat) : Prop := Cond.methodLink own idx y ∈ ztb ∧ Cond.initialized y.cls ∈ ztb ∧ Cond.code y bytes maxL ret ∈ ztb ∧ (y.cls ≠ "java/lang/invoke/MethodHandle" ∧ y.cls ≠ "java/lang/invoke/VarHandle") ∧ (parseMethodDescriptor y.desc).map (fun d => d.parameters.length) = some n
def zMV (own : String) (idx : Nat) (y : MethodName) (bytes : ByteArray) (maxL : Nat) (ret : Option FieldType) (n ci : Nat) : Prop := zML own idx y bytes maxL ret n ∧ Cond.instanceMethod y ∈ ztb ∧ Cond.selects y.cls y y ∈ ztb ∧ vwCl[ci]?.map (fun q => q.1) = some y.cls ∧ ci < 9
def zMS (own : String) (idx : Nat) (y : MethodName) (bytes : ByteArray) (maxL : Nat) (ret : Option FieldType) (n : Nat) : Prop := zML own idx y bytes maxL ret n ∧ Cond.static y ∈ ztb
theorem zML.callB {idx : Nat} {y : MethodName} {bytes : ByteArray} {maxL : Nat} {ret : Option FieldType} {n mc ms : Nat} {rm : Room} (hm : zML own idx y bytes maxL ret n) (hk : zK s) (hrc : rm.cells = mc) (hrs : rm.slots = ms) (hR : rm.frames + 1 ≤ R.frames ∧ 8 + (maxL + 11) + rm.locals ≤ R.locals) : CallB R s args own idx y bytes maxL ret [.code y bytes maxL ret] rm mc ms n := by
  obtain ⟨h1, h2, h3, h4, h5⟩ := hm
  refine ⟨hrc, hrs, hR.1, hR.2, fun w hw a' U hW => ?_, List.mem_cons_self, hk.at h3, hk.at h2, h4, fun sig h => ?_, hk.at h1⟩
  · rw [List.mem_singleton.mp hw]
    exact zK.at (zK.warm hW hk) h3
  · rw [h] at h5
    exact (Option.some.inj h5).symm
theorem z_run {mc ms : Nat} {z2 : Nat} {S2 : zS} {o : Option Value} {av : Array Value} {st0 : List Value} (hS0 : zV A z s.heap H locs) (hr : va_Run p l e R s m args below meth c H locs cells slots mc ms (F0 m pc ls st0) rest (zQ D cy A S2 z2 o av) A)
    (kk : ∀ (H1 : Heap) (locs1 : List Loc), zH D cy A S2 H1 → zV A z2 s.heap H1 locs1 → W p l e R s m args below meth c H1 locs1 (cells + mc) (slots + ms) Q (F0 m (pc + 3) ls (o.toList ++ rest))) : W p l e R s m args below meth c H locs cells slots Q (F0 m pc ls st0) := by
  intro T hT X
  obtain ⟨v, st₀, t, T', L, h0, X', hL, e1, e2, ⟨hv, hz, hh, -, hF⟩, st⟩ := hr T hT X
  cases hv
  obtain ⟨hz1, hk1⟩ := hF
  rw [h0] at hz1 hk1
  obtain ⟨hS, hz0⟩ := hS0
  obtain ⟨t2, a1, b1⟩ := kk T'.heap (locs ++ L) (by rw [e1]; exact hh) ⟨⟨Nat.le_trans hS.1 (by rw [e1]; exact hz1), fun q h1 h2 => by rw [e1, hk1 q (Nat.lt_of_lt_of_le h1 hS.1) h2]; exact hS.2.1 q h1 h2, fun q hq => by
      rcases List.mem_append.mp hq with h | h
      · exact hS.2.2 q h
      · exact hL q h⟩, by rw [e1]; exact hz⟩ T' rfl X'
  exact ⟨t2, st t2 a1, b1⟩
variable {y : MethodName} {bytes : ByteArray} {maxL n idx : Nat} {ret : Option FieldType} {rm : Room} {mc ms : Nat} {As st0 : List Value} {S2 : zS} {z2 : Nat} {o : Option Value} {lv : List (Nat × Value)}
theorem z_cV (X : zX D cy p s m meth c cc nL own rt) (hl : lv_has ls nL lv) (hH : zH D cy A S H) (hS0 : zV A z s.heap H locs) {ci : Nat} (mv : zMV own idx y bytes maxL ret n ci) {u : Unit} (hrc : zrc S a ci = some u) (hM : Met l y [.code y bytes maxL ret] rm (zP D cy A S z (.ref a :: As)) (zQ D cy A S2 z2 o) mc ms A)
    (hn : As.length = n) (hstack : st0 = As.reverse ++ .ref a :: rest) (hW : (rest.map fun v => v.category).sum ≤ 8) (hR : rm.cells = mc ∧ rm.slots = ms ∧ rm.frames + 1 ≤ R.frames ∧ 8 + (maxL + 11) + rm.locals ≤ R.locals) (hf : cells + mc ≤ R.cells ∧ slots + ms ≤ R.slots) (hdg : decode cc pc = .ok (.invokevirtual idx, 3))
    (kk : ∀ (H1 : Heap) (locs1 : List Loc), zH D cy A S2 H1 → zV A z2 s.heap H1 locs1 → W p l e R s m args below meth c H1 locs1 (cells + mc) (slots + ms) Q (F0 m (pc + 3) ls (o.toList ++ rest))) : W p l e R s m args below meth c H locs cells slots Q (F0 m pc ls st0) := by
  obtain ⟨hml, hin, hse, hci, hc9⟩ := mv
  have hk : zK s := X.2.2.2.2.2.2.1
  unfold zrc at hrc
  split at hrc
  · next h =>
    obtain ⟨n5, hk5⟩ := zkd h
    obtain ⟨q, hq, hqy⟩ : ∃ q, vwCl[ci]? = some q ∧ q.1 = y.cls := by
      cases hv : vwCl[ci]? with
      | none => rw [hv] at hci; cases hci
      | some q => rw [hv] at hci; exact ⟨q, rfl, Option.some.inj hci⟩
    obtain ⟨q', h1, cell, g1, g2, g3, -⟩ := (hH.obj hk5 hc9) 0 _ rfl
    have hcell : ∃ cellB : Cell, H[a]? = some cellB ∧ cellB.vm.isStatics = false ∧ s.vm.findClass y.cls = some cellB.cls := ⟨cell, g1, by rw [g3]; rfl, by rw [g2, ← hqy]; exact (X.2.2.2.2.2.2.2.2.1 ci q hq).2.1⟩
    refine z_run hS0 (va_runV (C := y.cls) (As := As) (rest := rest) (b := a) (Ts := ztb) (nL := nL) ⟨X.1, X.2.1, X.2.2.1, X.2.2.2.1, X.ts⟩ hM ⟨hml.callB hk hR.1 hR.2.1 hR.2.2, hk.at hin, hk.at hse⟩ ⟨zP.blind, hcell, fun U hU hW => ⟨rfl, by rw [hU]; exact hS0.2, by rw [hU]; exact hH, zT.warm hW X.2.2.2.2.2.2⟩⟩ rfl hn hl.1 hstack (lv_room hW) hdg hf) kk
  · cases hrc
theorem z_cS (X : zX D cy p s m meth c cc nL own rt) (hl : lv_has ls nL lv) (hH : zH D cy A S H) (hS0 : zV A z s.heap H locs) (mv : zMS own idx y bytes maxL ret n) (hM : Met l y [.code y bytes maxL ret] rm (zP D cy A S z As) (zQ D cy A S2 z2 o) mc ms A)
    (hn : As.length = n) (hstack : st0 = As.reverse ++ rest) (hW : (rest.map fun v => v.category).sum ≤ 8) (hR : rm.cells = mc ∧ rm.slots = ms ∧ rm.frames + 1 ≤ R.frames ∧ 8 + (maxL + 11) + rm.locals ≤ R.locals) (hf : cells + mc ≤ R.cells ∧ slots + ms ≤ R.slots) (hdg : decode cc pc = .ok (.invokestatic idx, 3))
    (kk : ∀ (H1 : Heap) (locs1 : List Loc), zH D cy A S2 H1 → zV A z2 s.heap H1 locs1 → W p l e R s m args below meth c H1 locs1 (cells + mc) (slots + ms) Q (F0 m (pc + 3) ls (o.toList ++ rest))) : W p l e R s m args below meth c H locs cells slots Q (F0 m pc ls st0) := by
  obtain ⟨hml, hst⟩ := mv
  have hk : zK s := X.2.2.2.2.2.2.1
  exact z_run hS0 (va_runS (As := As) (rest := rest) (Ts := ztb) (nL := nL) ⟨X.1, X.2.1, X.2.2.1, X.2.2.2.1, X.ts⟩ hM ⟨hml.callB hk hR.1 hR.2.1 hR.2.2, hk.at hst⟩ ⟨zP.blind, fun U hU hW => ⟨rfl, by rw [hU]; exact hS0.2, by rw [hU]; exact hH, zT.warm hW X.2.2.2.2.2.2⟩⟩ rfl hn hl.1 hstack (lv_room hW) hdg hf) kk
end ZC
/-- the way from a place in a method's code to its end -/
def zWt (D : va_G) (cy : Nat → ClassId) (A : Nat → Prop) (p : Program) (l : Launch) (e : Env) (R : Room) (s : State) (m : MethodId) (args : Array Value) (below : List Frame) (meth : Method) (c : Code) (z cells slots mc ms : Nat) (Qc : Array Value → State → Outcome → State → Prop) (S : zS) (nL pc : Nat) (lv : List (Nat × Value)) (st : List Value) : Prop :=
  ∀ (H : Heap) (locs : List Loc) (ls : Array Slot), zH D cy A S H → zV A z s.heap H locs → lv_has ls nL lv → W p l e R s m args below meth c H locs cells slots (MQ below Qc args s mc ms A) (F0 m pc ls st)
/-- a contract out of the walk of the body -/
theorem z_met {l : Launch} {D : va_G} {cy : Nat → ClassId} {A : Nat → Prop} {S : zS} {z mc ms : Nat} {y : MethodName} {cc : ByteArray} {maxL : Nat} {ret : Option FieldType} {rm : Room} {Qc : Array Value → State → Outcome → State → Prop} {av : List Value} {lv : List (Nat × Value)} (hy : plainName y.cls = true) (hlen : (lg_sl av).length ≤ maxL) (hlv : lv_args 0 av = lv)
    (body : ∀ (p : Program) (e : Env) (s : State) (m : MethodId) (below : List Frame) (meth : Method) (c : Code), zX D cy p s m meth c cc maxL y.cls ret → zWt D cy A p l e rm s m av.toArray below meth c z 0 0 mc ms Qc S maxL 0 lv []) : Met l y [.code y cc maxL ret] rm (zP D cy A S z av) Qc mc ms A := by
  refine Met.ofW (cc := cc) (maxL := maxL) (ret := ret) hy rfl ?_
  intro p e s m args below meth c s₁ B hml hv
  obtain ⟨rfl, hz, hH, hT⟩ := hv
  have hl := lv_entry av (n := maxL) hlen
  rw [lg_entry_eq]
  rw [hlv] at hl
  exact body p e s m below meth c ⟨B.exec, B.bytes, hml, findClass_of_methodNamed B.named, B.returns, B.notSynchronized, hT⟩ s.heap [] _ hH ⟨va_S.rf, hz⟩ hl
