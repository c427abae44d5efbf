/-! THE STORE: what one side's cells hold, as plain functions: kind (class or array tag, length), ints, references, longs by address and place -/
abbrev zS : Type := (Nat → Option (Nat × Nat)) × (Nat → Nat → Int32) × (Nat → Nat → Option Nat) × (Nat → Nat → Int64)
def zu {α : Type} (f : Nat → Nat → α) (a k : Nat) (v : α) : Nat → Nat → α := fun b j => if b = a ∧ j = k then v else f b j
def zro {α : Type} (f : Nat → Nat → α) (a : Nat) (g : Nat → α) : Nat → Nat → α := fun b j => if b = a then g j else f b j
theorem zu_ne {α : Type} {f : Nat → Nat → α} {a k : Nat} {v : α} {b : Nat} (h : b ≠ a) : zu f a k v b = f b := by
  funext j
  simp [zu, h]
theorem zu_eq {α : Type} {f : Nat → Nat → α} {a k : Nat} {v : α} (j : Nat) : zu f a k v a j = if j = k then v else f a j := by simp [zu]
theorem zro_ne {α : Type} {f : Nat → Nat → α} {a : Nat} {g : Nat → α} {b : Nat} (h : b ≠ a) : zro f a g b = f b := by
  funext j
  simp [zro, h]
theorem zro_eq {α : Type} {f : Nat → Nat → α} {a : Nat} {g : Nat → α} : zro f a g a = g := by
  funext j
  simp [zro]
/-- which fields of a class are references -/
def zF (c : Nat) : List Bool := match c with
  | 0 => [true, true, true, true, true, true, false]
  | 1 => [true, true, true, true, true, true, false]
  | 2 => [true, true, false]
  | 3 => [true, true, true]
  | 4 => [true, true, true, true, true, true, true, true, false, false]
  | 5 => [false, true, false]
  | 6 => [true, true, false, false]
  | 7 => [true, true, true, true, true, true, true, true]
  | 8 => [false, true, false, false, true, true, true, true, false, true, true, true, true, true, true, true, true, true, false, true, true, true, true, true, false, true, true, true, true, true, true, true, true]
  | _ => []
def zfs (S : zS) (a c : Nat) : List Value := (zF c).mapIdx fun k b => if b = true then va_rf (S.2.2.1 a k) else .int (S.2.1 a k)
def zE (cy : Nat → ClassId) (S : zS) (a c n : Nat) : va_E :=
  if c < 9 then .inr (c, zfs S a c)
  else if c = 10 then .inl (cy c, n, .inr (.inl (S.2.2.2 a)))
  else if c = 12 ∨ c = 13 then .inl (cy c, n, .inr (.inr (.inr (.inr (S.2.2.1 a)))))
  else .inl (cy c, n, .inl (S.2.1 a))
abbrev ztys (cy : Nat → ClassId) : List (ClassId × FieldType) := [(cy 9, .int), (cy 10, .long), (cy 11, .boolean), (cy 12, .object "BuiltTwice$Row"), (cy 13, .array .int)]
/-- the heap holds the store, and all of it lies in A -/
def zH (D : va_G) (cy : Nat → ClassId) (A : Nat → Prop) (S : zS) (H : Heap) : Prop := ∀ a c n : Nat, S.1 a = some (c, n) → A a ∧ va_at D vwCl (a, zE cy S a c n) H
/-- the tables' words that stay, and the classes -/
def zgood : Cond → Bool
  | .fieldLinkNest _ _ _ _ _ _ => true
  | .methodLinkNest _ _ _ _ => true
  | w => w.onTables && w.keeps
def ztb : List Cond := lw_tbl.filter zgood
theorem ztb_in {w : Cond} (h : w ∈ lw_tbl) (hg : zgood w = true) : w ∈ ztb := List.mem_filter.mpr ⟨h, hg⟩
def zK (U : State) : Prop := ∀ w ∈ ztb, w.before #[] U = true
def zA (U : State) : Prop := (Cond.arrayClass .int).before #[] U = true ∧ (Cond.arrayClass .long).before #[] U = true ∧ (Cond.arrayClass .boolean).before #[] U = true ∧ va_AO "BuiltTwice$Row" U ∧ (Cond.arrayOver (.array .int)).before #[] U = true
def zT (D : va_G) (cy : Nat → ClassId) (U : State) : Prop := zK U ∧ zA U ∧ va_K D vwCl (ztys cy) U
theorem zgood_on {w : Cond} (h : zgood w = true) : w.onTables = true := by
  cases w <;> first | rfl | (simp only [zgood, Bool.and_eq_true] at h; exact h.1)
theorem zK.at {U : State} (h : zK U) {w : Cond} (hw : w ∈ ztb) {args : Array Value} : w.before args U = true := va_tabs (zgood_on (List.mem_filter.mp hw).2) rfl (h w hw)
theorem zK.same {u U : State} (hvm : u.vm = U.vm) (h : zK u) : zK U := fun w hw => va_tabs (zgood_on (List.mem_filter.mp hw).2) hvm (h w hw)
theorem zK.warm {s U : State} (hW : s.WarmedH U.vm) (h : zK s) : zK U := by
  intro w hw
  have hg := (List.mem_filter.mp hw).2
  have hb := h w hw
  cases w with
  | fieldLinkNest a i b n d g => exact va_Nw.warmF hW hb
  | methodLinkNest a i x g => exact va_Nw.warmM hW hb
  | _ => exact word_at hW (Or.inl hg) hb
theorem z_ac {ty : FieldType} {a b : Array Value} {u U : State} (hvm : u.vm = U.vm) (h : (Cond.arrayClass ty).before a u = true) : (Cond.arrayClass ty).before b U = true := by
  simp only [Cond.before, Cond.holds, Cond.value] at h ⊢
  rw [← hvm]
  exact h
theorem z_aoa {a b : Array Value} {u U : State} (hvm : u.vm.Alike U.vm) (h : (Cond.arrayOver (.array .int)).before a u = true) : (Cond.arrayOver (.array .int)).before b U = true := by
  have h' := h
  simp only [Cond.before, Cond.holds, Cond.value, beq_iff_eq] at h'
  cases hc : u.vm.findClass (FieldType.array .int).toString with
  | none => simp [hc] at h'
  | some comp =>
    simp only [hc, Option.bind_some, Option.bind_eq_some_iff, Option.map_eq_some_iff] at h'
    obtain ⟨c, hi, k, hk, hb⟩ := h'
    have h1 := va_idx_bare U.vm comp
    have h3 : U.vm.bare = u.vm.bare := by first | exact hvm.bare_eq | exact hvm.bare_eq.symm
    rw [h3] at h1
    have hi2 := (h1.symm.trans (va_idx_bare u.vm comp)).trans hi
    obtain ⟨k', hk', he⟩ := hvm.2.2 _ _ hk
    have hkind : k'.kind = k.kind := by rw [he]
    have f1 : U.vm.findClass (FieldType.array .int).toString = some comp := by rw [hvm.findClass]; exact hc
    unfold Cond.before Cond.holds
    simp only [Cond.value]
    rw [f1, Option.bind_some]
    refine (congrArg (fun o : Option Nat => (o.bind (fun c => (U.vm.classes[c]?).map fun (k : Class) => match k.kind with | .array _ ty => decide (ty = FieldType.array .int) && decide (U.vm.findClass ("[" ++ (FieldType.array .int).toString) = some c) | _ => false) == some true)) hi2).trans ?_
    cases hkk : k.kind with
    | array component ty =>
      rw [hkk] at hb hkind
      simp at hb
      simp [hk', hkind, hvm.findClass, hb.1, hb.2]
    | _ => rw [hkk] at hb; simp at hb
theorem zA.warm {s U : State} (hW : s.WarmedH U.vm) (h : zA s) : zA U := ⟨word_at hW (Or.inr ⟨_, rfl⟩) h.1, word_at hW (Or.inr ⟨_, rfl⟩) h.2.1, word_at hW (Or.inr ⟨_, rfl⟩) h.2.2.1, h.2.2.2.1.moved hW.alike, z_aoa hW.alike h.2.2.2.2⟩
theorem zA.same {u U : State} (hvm : u.vm = U.vm) (h : zA u) : zA U := ⟨z_ac hvm h.1, z_ac hvm h.2.1, z_ac hvm h.2.2.1, h.2.2.2.1.moved (by rw [hvm]; exact Vm.Alike.refl _), z_aoa (by rw [hvm]; exact Vm.Alike.refl _) h.2.2.2.2⟩
theorem zT.warm {D : va_G} {cy : Nat → ClassId} {s U : State} (hW : s.WarmedH U.vm) (h : zT D cy s) : zT D cy U := ⟨zK.warm hW h.1, zA.warm hW h.2.1, va_K.moved hW.alike h.2.2⟩
theorem zT.same {D : va_G} {cy : Nat → ClassId} {u U : State} (hvm : u.vm = U.vm) (h : zT D cy u) : zT D cy U := ⟨zK.same hvm h.1, zA.same hvm h.2.1, va_K.moved (by rw [hvm]; exact Vm.Alike.refl _) h.2.2⟩
/-- what is fixed while a method runs -/
def zX (D : va_G) (cy : Nat → ClassId) (p : Program) (s : State) (m : MethodId) (meth : Method) (c : Code) (cc : ByteArray) (nL : Nat) (own : String) (rt : Option FieldType) : Prop :=
  p.tables.exec = Jvm.exec ∧ c.code = cc ∧ c.maxLocals = nL ∧ s.vm.findClass own = some m.cls ∧ meth.sig.returnType = rt ∧ meth.locks = false ∧ zT D cy s
/-- what has changed since the method began lies in A; the heap's size is z -/
def zV (A : Nat → Prop) (z : Nat) (H0 H : Heap) (locs : List Loc) : Prop := va_S A H0 H locs ∧ H.size = z
theorem zV.put {A : Nat → Prop} {z : Nat} {H0 H H1 : Heap} {locs : List Loc} {a k : Nat} (h : zV A z H0 H locs) (e : H1.size = H.size) (oq : ∀ q : Nat, q ≠ a → H1[q]? = H[q]?) (ha : A a) : zV A z H0 H1 (locs ++ [⟨a, k⟩]) := ⟨h.1.put e oq ha, e.trans h.2⟩
/-- a method's start and end -/
def zP (D : va_G) (cy : Nat → ClassId) (A : Nat → Prop) (S : zS) (z : Nat) (av : List Value) : Array Value → State → Prop := va_Pc av (fun U => U.heap.size = z ∧ zH D cy A S U.heap ∧ zT D cy U)
def zQ (D : va_G) (cy : Nat → ClassId) (A : Nat → Prop) (S : zS) (z : Nat) (o : Option Value) : Array Value → State → Outcome → State → Prop := fun _ st oc t => oc = .returned o ∧ t.heap.size = z ∧ zH D cy A S t.heap ∧ zT D cy t ∧ va_F A st t
theorem zP.blind {D : va_G} {cy : Nat → ClassId} {A : Nat → Prop} {S : zS} {z : Nat} {av : List Value} : FrameBlind (zP D cy A S z av) := fun a U g mk h => by
  obtain ⟨h1, h0, h2, h3⟩ := h
  exact ⟨h1, h0, h2, zT.same (u := U) rfl h3⟩
/-! what the instructions do to a store -/
def zgi (S : zS) (a c k : Nat) : Option Int32 := if (S.1 a).map Prod.fst = some c then some (S.2.1 a k) else none
def zgr (S : zS) (a c k : Nat) : Option Nat := if (S.1 a).map Prod.fst = some c then S.2.2.1 a k else none
def zpi (S : zS) (a c k : Nat) (v : Int32) : Option zS := if (S.1 a).map Prod.fst = some c then some (S.1, zu S.2.1 a k v, S.2.2.1, S.2.2.2) else none
def zpr (S : zS) (a c k : Nat) (v : Nat) : Option zS := if (S.1 a).map Prod.fst = some c then some (S.1, S.2.1, zu S.2.2.1 a k (some v), S.2.2.2) else none
def zok (S : zS) (a t : Nat) (i : Int32) : Bool := match S.1 a with
  | some q => decide (q.1 = t) && (decide (¬ i < 0) && decide (i.toNatClampNeg < q.2))
  | none => false
def zil (S : zS) (a : Nat) (i : Int32) : Option Int32 := if zok S a 9 i = true then some (S.2.1 a i.toNatClampNeg) else none
def zis (S : zS) (a : Nat) (i : Int32) (v : Int32) : Option zS := if zok S a 9 i = true then some (S.1, zu S.2.1 a i.toNatClampNeg v, S.2.2.1, S.2.2.2) else none
def zzl (S : zS) (a : Nat) (i : Int32) : Option Int32 := if zok S a 11 i = true then some (S.2.1 a i.toNatClampNeg) else none
def zzs (S : zS) (a : Nat) (i : Int32) (v : Int32) : Option zS := if zok S a 11 i = true then some (S.1, zu S.2.1 a i.toNatClampNeg (v &&& 1), S.2.2.1, S.2.2.2) else none
def zll (S : zS) (a : Nat) (i : Int32) : Option Int64 := if zok S a 10 i = true then some (S.2.2.2 a i.toNatClampNeg) else none
def zls (S : zS) (a : Nat) (i : Int32) (v : Int64) : Option zS := if zok S a 10 i = true then some (S.1, S.2.1, S.2.2.1, zu S.2.2.2 a i.toNatClampNeg v) else none
def zal (S : zS) (a t : Nat) (i : Int32) : Option Nat := if zok S a t i = true then S.2.2.1 a i.toNatClampNeg else none
def zas (S : zS) (a : Nat) (i : Int32) (v : Nat) : Option zS := if zok S a 12 i = true ∧ (S.1 v).map Prod.fst = some 5 then some (S.1, S.2.1, zu S.2.2.1 a i.toNatClampNeg (some v), S.2.2.2) else none
def zln (S : zS) (a t : Nat) : Option Int32 := match S.1 a with
  | some q => if q.1 = t then some (Int32.ofNat q.2) else none
  | none => none
def zrc (S : zS) (a c : Nat) : Option Unit := if (S.1 a).map Prod.fst = some c then some () else none
/-- System.arraycopy of ints -/
def zcp (S : zS) (a0 : Nat) (sp : Int32) (a1 : Nat) (dp n : Int32) : Option zS := match S.1 a0, S.1 a1 with
  | some q0, some q1 => if q0.1 = 9 ∧ q1.1 = 9 ∧ ¬ sp < 0 ∧ ¬ dp < 0 ∧ ¬ n < 0 ∧ sp.toNatClampNeg + n.toNatClampNeg ≤ q0.2 ∧ dp.toNatClampNeg + n.toNatClampNeg ≤ q1.2
      then some (S.1, zro S.2.1 a1 (va_cpy (S.2.1 a0) (S.2.1 a1) sp.toNatClampNeg dp.toNatClampNeg n.toNatClampNeg), S.2.2.1, S.2.2.2) else none
  | _, _ => none
def zush (x y : Int32) : Int32 := (x.toUInt32 >>> (y.toUInt32 &&& Int32.toUInt32 31)).toInt32
def zlet {α β : Type} (e : α) (f : α → β) : β := f e
def zloop {α β : Type} (B : (α → Option β) → α → Option β) : Nat → α → Option β
  | 0, _ => none
  | n + 1, x => B (zloop B n) x
theorem zloop_ind {α β : Type} {P : α → Prop} {B : (α → Option β) → α → Option β} {z : β} (h : ∀ K : α → Option β, (∀ y, K y = some z → P y) → ∀ x, B K x = some z → P x) : ∀ (n : Nat) (x : α), zloop B n x = some z → P x := by
  intro n
  induction n with
  | zero => intro x hx; cases hx
  | succ n ih => intro x hx; exact h (zloop B n) ih x hx
theorem zb_some {α β : Type} {o : Option α} {F : α → Option β} {z : β} (h : o.bind F = some z) : ∃ v, o = some v ∧ F v = some z := by
  cases o with
  | none => cases h
  | some v => exact ⟨v, rfl, h⟩
theorem zlet_at {α β : Type} {e y : α} {F : α → β} {z : β} (ey : y = e) (h : zlet e F = z) : F y = z := by
  subst ey
  exact h
/-! a link of a field: the reader's class and pool index; the field's class (number) and place; whether it is a reference -/
def zFL (own : String) (idx ci k : Nat) (b : Bool) : Prop := ∃ (C : String) (T : u_T) (N : Nat), vwCl[ci]? = some (C, T, N) ∧ (∀ w ∈ u_ws C T N, w ∈ ztb) ∧ k < N ∧ (zF ci)[k]? = some b ∧ ci < 9 ∧ (zF ci).length = N ∧
  (Cond.fieldLink own idx (T k).1 (T k).2.1 (T k).2.2.1 ∈ ztb ∨ ∃ host, Cond.fieldLinkNest own idx (T k).1 (T k).2.1 (T k).2.2.1 host ∈ ztb)
/-- a field that may be put: not final, of a type -/
def zFP (ci k : Nat) (fin : Bool) (ty : FieldType) : Prop := ∃ (C : String) (T : u_T) (N : Nat) (ty0 : Nat → FieldType), vwCl[ci]? = some (C, T, N) ∧ (∀ k, k < N → parseFieldDescriptor (T k).2.2.1 = some (ty0 k)) ∧ (∀ a, a < N → ∀ b, b < N → a ≠ b → (T a).2.1 ≠ (T b).2.1) ∧ (T k).2.2.2 = fin ∧ ty0 k = ty ∧ (T k).1 = C
theorem zkd {S : zS} {a c : Nat} (h : (S.1 a).map Prod.fst = some c) : ∃ n, S.1 a = some (c, n) := by
  cases hs : S.1 a with
  | none => rw [hs] at h; cases h
  | some q =>
    obtain ⟨c', n⟩ := q
    rw [hs] at h
    cases h
    exact ⟨n, rfl⟩
theorem zok_at {S : zS} {a t : Nat} {i : Int32} (h : zok S a t i = true) : ∃ n, S.1 a = some (t, n) ∧ vp_in i n := by
  unfold zok at h
  cases hs : S.1 a with
  | none => rw [hs] at h; cases h
  | some q =>
    obtain ⟨c', n⟩ := q
    rw [hs] at h
    simp only [Bool.and_eq_true, decide_eq_true_eq] at h
    obtain ⟨h1, h2, h3⟩ := h
    subst h1
    exact ⟨n, rfl, fun q => q.elim h2 (fun z => Nat.not_lt.mpr z h3)⟩
theorem zfs_at {S : zS} {a c k : Nat} {b : Bool} (h : (zF c)[k]? = some b) : (zfs S a c)[k]? = some (if b = true then va_rf (S.2.2.1 a k) else .int (S.2.1 a k)) := by
  simp [zfs, h]
theorem zE_o {cy : Nat → ClassId} {S : zS} {a c n : Nat} (h : c < 9) : zE cy S a c n = .inr (c, zfs S a c) := by simp [zE, h]
theorem zH.obj {D : va_G} {cy : Nat → ClassId} {A : Nat → Prop} {S : zS} {H : Heap} (h : zH D cy A S H) {a c n : Nat} (hk : S.1 a = some (c, n)) (hc : c < 9) : va_P D vwCl [(a, .inr (c, zfs S a c))] H := by
  intro k q hq
  have h1 := (h a c n hk).2
  rw [zE_o hc] at h1
  cases k with
  | zero => cases hq; exact h1
  | succ k => simp at hq
/-- one cell changes -/
theorem zH.one {D : va_G} {cy : Nat → ClassId} {A : Nat → Prop} {S S1 : zS} {H H1 : Heap} (h : zH D cy A S H) {a ci n : Nat} (hk : S.1 a = some (ci, n)) (oq : ∀ q : Nat, q ≠ a → H1[q]? = H[q]?) (h1 : va_at D vwCl (a, zE cy S1 a ci n) H1) (hs : S1.1 = S.1) (ho : ∀ b c n : Nat, b ≠ a → zE cy S1 b c n = zE cy S b c n) : zH D cy A S1 H1 := by
  intro b c k hb
  rw [hs] at hb
  obtain ⟨g1, g2⟩ := h b c k hb
  refine ⟨g1, ?_⟩
  by_cases e : b = a
  · subst e
    cases hk.symm.trans hb
    exact h1
  · rw [ho b c k e]
    exact g2.kept (oq b e)
theorem zE_cong {cy : Nat → ClassId} {S S1 : zS} {b c n : Nat} (h1 : S1.2.1 b = S.2.1 b) (h2 : S1.2.2.1 b = S.2.2.1 b) (h3 : S1.2.2.2 b = S.2.2.2 b) : zE cy S1 b c n = zE cy S b c n := by
  simp only [zE, zfs, h1, h2, h3]
