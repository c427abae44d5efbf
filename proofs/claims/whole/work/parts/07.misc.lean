/-- a contract out of the walk of the body, where cells are made -/
theorem z_metA {l : Launch} {D : va_G} {cy : Nat → ClassId} {A : Nat → Prop} {S : zS} {z mc ms : Nat} {y : MethodName} {cc : ByteArray} {maxL : Nat} {ret : Option FieldType} {rm : Room} {Qc : Array Value → State → Outcome → State → Prop} {av : List Value} {lv : List (Nat × Value)} (hy : plainName y.cls = true) (hlen : (lg_sl av).length ≤ maxL) (hlv : lv_args 0 av = lv)
    (body : ∀ (p : Program) (e : Env) (s : State) (m : MethodId) (below : List Frame) (meth : Method) (c : Code), zX D cy p s m meth c cc maxL y.cls ret → s.heap.size = z → zWt D cy A p l e rm s m av.toArray below meth c z 0 0 mc ms Qc S maxL 0 lv []) : Met l y [.code y cc maxL ret] rm (zP D cy A S z av) Qc mc ms A := by
  refine Met.ofW (cc := cc) (maxL := maxL) (ret := ret) hy rfl ?_
  intro p e s m args below meth c s₁ B hml hv
  obtain ⟨rfl, hz, hH, hT⟩ := hv
  have hl := lv_entry av (n := maxL) hlen
  rw [lg_entry_eq]
  rw [hlv] at hl
  exact body p e s m below meth c ⟨B.exec, B.bytes, hml, findClass_of_methodNamed B.named, B.returns, B.notSynchronized, hT⟩ hz s.heap [] _ hH ⟨va_S.rf, hz⟩ hl
theorem z_metI {l : Launch} {D : va_G} {cy : Nat → ClassId} {A : Nat → Prop} {S : zS} {z mc ms : Nat} {y : MethodName} {cc : ByteArray} {maxL : Nat} {ret : Option FieldType} {rm : Room} {Qc : Array Value → State → Outcome → State → Prop} {av : List Value} {lv : List (Nat × Value)} (hy : plainName y.cls = true) (hlen : (lg_sl av).length ≤ maxL) (hlv : lv_args 0 av = lv) (hni : y.name = "<init>")
    (body : ∀ (p : Program) (e : Env) (s : State) (m : MethodId) (below : List Frame) (meth : Method) (c : Code), zX D cy p s m meth c cc maxL y.cls ret → meth.name = "<init>" → s.heap.size = z → zWt D cy A p l e rm s m av.toArray below meth c z 0 0 mc ms Qc S maxL 0 lv []) : Met l y [.code y cc maxL ret] rm (zP D cy A S z av) Qc mc ms A := by
  refine Met.ofW (cc := cc) (maxL := maxL) (ret := ret) hy rfl ?_
  intro p e s m args below meth c s₁ B hml hv
  obtain ⟨rfl, hz, hH, hT⟩ := hv
  have hl := lv_entry av (n := maxL) hlen
  have hin : meth.name = y.name := (name_of_methodNamed B.named B.method).1
  rw [lg_entry_eq]
  rw [hlv] at hl
  exact body p e s m below meth c ⟨B.exec, B.bytes, hml, findClass_of_methodNamed B.named, B.returns, B.notSynchronized, hT⟩ (hin.trans hni) hz s.heap [] _ hH ⟨va_S.rf, hz⟩ hl
section ZM
variable {p : Program} {l : Launch} {e : Env} {R : Room} {s : State} {m : MethodId} {args : Array Value} {below : List Frame} {meth : Method} {c : Code} {H : Heap} {locs : List Loc} {q w : Nat} {Q : State → Prop}
variable {cc : ByteArray} {pc nL : Nat} {ls : Array Slot} {rest : List Value} {D : va_G} {cy : Nat → ClassId} {A : Nat → Prop} {a : Nat} {own : String} {rt : Option FieldType} {S S1 : zS} {z : Nat}
theorem z_outer (c : ClassId) (N h0 : Nat) : ∀ i : Nat, Jvm.Free.Multi.outerC c N h0 i = arrV c N (fun j => va_rf (if j < i then some (h0 + 1 + j) else none))
  | 0 => by
    show ({ cls := c, slots := Array.replicate N .null, vm := .none } : Cell) = _
    rw [arrV_new]
    refine congrArg (arrV c N) (funext fun j => ?_)
    simp [va_rf]
  | i + 1 => by
    show (Jvm.Free.Multi.outerC c N h0 i).setSlot i (.ref (h0 + 1 + i)) = _
    rw [z_outer c N h0 i, arrV_store]
    refine congrArg (arrV c N) (funext fun j => ?_)
    by_cases e : j = i
    · subst e
      simp [updV, va_rf]
    · by_cases h : j < i
      · simp [updV, e, h, Nat.lt_succ_of_lt h]
      · simp [updV, e, h, show ¬ j < i + 1 by omega]
theorem z_inner (c : ClassId) (K : Nat) : Jvm.Free.Multi.innerC c K (defaultValue .int) = vp_cell c (K, .inl (fun _ => 0)) := by
  rw [vp_cell_i]
  show ({ cls := c, slots := Array.replicate K (.int 0), vm := .none } : Cell) = _
  rw [arrV_new]
/-- new int[n][k] -/
theorem z_mna (X : zX D cy p s m meth c cc nL own rt) {idx : Nat} (hlink : Cond.classLink own idx "[[I" ∈ ztb) (hH : zH D cy A S H) (hS0 : zV A z s.heap H locs) (hA : ∀ q : Nat, z ≤ q → A q) {n k : Int32} {N' K' : Nat} (hn : ¬ n < 0) (hk : ¬ k < 0) (hN : n.toNatClampNeg = N') (hM : k.toNatClampNeg = K') (hb1 : N' ≤ 1000) (hb2 : K' ≤ 1000) {u : Unit} (hbud : zbud R.cells R.slots q w (1 + N') (N' + N' * K') = some u) (hdg : decode cc pc = .ok (.multianewarray idx 2, 4))
    (kk : ∀ H1 : Heap, zH D cy A (zad2 S z N' K') H1 → zV A (z + (1 + N')) s.heap H1 locs → W p l e R s m args below meth c H1 locs (q + (1 + N')) (w + (N' + N' * K')) Q (F0 m (pc + 4) ls (.ref z :: rest))) : W p l e R s m args below meth c H locs q w Q (F0 m pc ls (.int k :: .int n :: rest)) := by
  subst hN
  subst hM
  have hbd := zbud_at hbud
  obtain ⟨hS, hz⟩ := hS0
  have hzA := X.2.2.2.2.2.2.2.1
  intro T hT Xs
  obtain ⟨vm₁, cA, comp, -, fA, fC, hO, -, X', step⟩ := Xs.multianewarray2F X.1 X.2.2.2.1 (ty := .int) (X.ts _ hlink) (z_aoa (Vm.Alike.refl _) hzA.2.2.2.2) (z_ac (u := s) rfl hzA.1) (g := F0 m pc ls (.int k :: .int n :: rest)) rfl (by rw [X.2.1]; exact hdg) rfl hn hk (by omega) (by simp only [componentBytes]; omega) (by omega) (by rfl) (by rfl) hbd.1 hbd.2
  have e13 : cA = cy 13 := Option.some.inj (fA.symm.trans (X.2.2.2.2.2.2.ty (k := 4) rfl).2)
  have e9 : comp = cy 9 := Option.some.inj (fC.symm.trans (X.2.2.2.2.2.2.ty (k := 0) rfl).2)
  subst e13
  subst e9
  generalize hF : Jvm.Free.Multi.fill (T.setVm vm₁) (cy 13) (cy 9) n.toNatClampNeg k.toNatClampNeg (defaultValue .int) n.toNatClampNeg = F at X' step
  have hTh : (T.setVm vm₁).heap = H := hT
  obtain ⟨f1, f2, -, -⟩ := Jvm.Free.Multi.fill_facts (T.setVm vm₁) (cy 13) (cy 9) n.toNatClampNeg k.toNatClampNeg (defaultValue .int) n.toNatClampNeg
  rw [hF, hTh] at f1 f2
  have hold : ∀ x : Nat, x < H.size → F.heap[x]? = H[x]? := fun x hx => by
    have := Jvm.Free.Multi.fill_old (T.setVm vm₁) (cy 13) (cy 9) n.toNatClampNeg k.toNatClampNeg (defaultValue .int) (a := x) (by rw [hTh]; exact hx) n.toNatClampNeg
    rw [hF, hTh] at this
    exact this
  have hrow : ∀ j : Nat, j < n.toNatClampNeg → F.heap[H.size + 1 + j]? = some (vp_cell (cy 9) (k.toNatClampNeg, .inl (fun _ => 0))) := fun j hj => by
    have := Jvm.Free.Multi.fill_inner (T.setVm vm₁) (cy 13) (cy 9) n.toNatClampNeg k.toNatClampNeg (defaultValue .int) n.toNatClampNeg j hj
    rw [hF, hTh, z_inner] at this
    exact this
  rw [z_outer] at f2
  rw [hz] at f2 f1 hrow hold
  have hH1 : zH D cy A (zad2 S z n.toNatClampNeg k.toNatClampNeg) F.heap := by
    intro b t k9 hb
    by_cases e1 : b = z
    · subst e1
      simp only [zad2, if_true] at hb
      cases hb
      refine ⟨hA b (Nat.le_refl _), ?_⟩
      rw [zE_13]
      show F.heap[b]? = some (vp_cell (cy 13) (n.toNatClampNeg, .inr (.inr (.inr (.inr ((zad2 S b n.toNatClampNeg k.toNatClampNeg).2.2.1 b))))))
      rw [f2, vp_cell_q]
      simp [zad2]
    · by_cases e2 : z + 1 ≤ b ∧ b < z + 1 + n.toNatClampNeg
      · simp only [zad2, if_neg e1, if_pos e2] at hb
        cases hb
        refine ⟨hA b (by omega), ?_⟩
        rw [zE_9]
        have h9 := hrow (b - (z + 1)) (by omega)
        rw [show z + 1 + (b - (z + 1)) = b by omega] at h9
        show F.heap[b]? = some (vp_cell (cy 9) (k.toNatClampNeg, .inl ((zad2 S z n.toNatClampNeg k.toNatClampNeg).2.1 b)))
        rw [h9]
        have e3 : (zad2 S z n.toNatClampNeg k.toNatClampNeg).2.1 b = fun _ => 0 := by
          funext j
          simp only [zad2]
          rw [if_pos (by omega)]
        rw [e3]
      · simp only [zad2, if_neg e1, if_neg e2] at hb
        obtain ⟨g1, g2⟩ := hH b t k9 hb
        have hlt : b < H.size := g2.lt
        rw [hz] at hlt
        refine ⟨g1, ?_⟩
        have e4 : ¬ (z ≤ b ∧ b < z + 1 + n.toNatClampNeg) := by omega
        rw [zE_cong (S := S) (S1 := zad2 S z n.toNatClampNeg k.toNatClampNeg) (by funext j; simp only [zad2]; rw [if_neg e4]) (by funext j; simp only [zad2]; rw [if_neg e1, if_neg e4]) (by funext j; simp only [zad2]; rw [if_neg e4])]
        exact g2.kept (hold b hlt)
  obtain ⟨t, a1, b1⟩ := kk F.heap hH1 ⟨⟨by have := hS.1; omega, fun x h1 h2 => (hold x (by have := hS.1; omega)).trans (hS.2.1 x h1 h2), hS.2.2⟩, by omega⟩ F rfl (by
    have e : q + 1 + n.toNatClampNeg = q + (1 + n.toNatClampNeg) := by omega
    have e' : w + n.toNatClampNeg + n.toNatClampNeg * k.toNatClampNeg = w + (n.toNatClampNeg + n.toNatClampNeg * k.toNatClampNeg) := by omega
    rw [← e, ← e']
    exact X')
  refine ⟨t, step t ?_, b1⟩
  have e : T.heap.size = z := by rw [hT]; exact hz
  rw [e]
  exact a1
end ZM
