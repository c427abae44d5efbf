theorem zush_eq (x y : Int32) : (x.toUInt32 >>> (y.toUInt32 &&& Int32.toUInt32 31)).toInt32 = zush x y := rfl
theorem z_ii {n : Int} {v : Int32} (h : Int32.ofInt n = v) (x : Int32) : x + Int32.ofInt n = x + v := by rw [h]
section ZMM
variable {p : Program} {l : Launch} {e : Env} {R : Room} {s : State} {m : MethodId} {args : Array Value} {below : List Frame} {meth : Method} {c : Code} {H : Heap} {locs : List Loc} {cells slots : Nat} {Q : State → Prop}
variable {cc : ByteArray} {pc nL : Nat} {ls : Array Slot} {rest : List Value} {D : va_G} {cy : Nat → ClassId} {own : String} {rt : Option FieldType} {lv : List (Nat × Value)} {idx : Nat}
theorem z_mine : yJ9_min_7cf53 = Lib.Math.min.name ∧ cJ9_min_7cf53 = Lib.Math.min.code := ⟨rfl, by decide +kernel⟩
theorem z_maxe : yJ9_max_7cf53 = Lib.Math.max.name ∧ cJ9_max_7cf53 = Lib.Math.max.code := ⟨rfl, by decide +kernel⟩
theorem z_min (X : zX D cy p s m meth c cc nL own rt) (hl : lv_has ls nL lv) (mv : zMS own idx yJ9_min_7cf53 cJ9_min_7cf53 2 (some .int) 2) (hf : 1 ≤ R.frames) (hlo : (rest.map fun v => v.category).sum + 13 ≤ R.locals) (hc : cells ≤ R.cells) (hs : slots ≤ R.slots) {x y : Int32} (hdg : decode cc pc = .ok (.invokestatic idx, 3))
    (kk : W p l e R s m args below meth c H locs cells slots Q (F0 m (pc + 3) ls (.int (zmn x y) :: rest))) : W p l e R s m args below meth c H locs cells slots Q (F0 m pc ls (.int y :: .int x :: rest)) := by
  obtain ⟨⟨h1, h2, h3, -, -⟩, h4⟩ := mv
  rw [z_mine.1] at h1 h3 h4
  rw [z_mine.2] at h3
  exact va_mmin X.1 X.2.1 (X.2.2.1.trans hl.1.symm) X.2.2.2.1 (X.ts _ h1) (X.ts _ h4) (X.ts _ h2) (X.ts _ h3) hf hlo hc hs hdg kk
theorem z_max (X : zX D cy p s m meth c cc nL own rt) (hl : lv_has ls nL lv) (mv : zMS own idx yJ9_max_7cf53 cJ9_max_7cf53 2 (some .int) 2) (hf : 1 ≤ R.frames) (hlo : (rest.map fun v => v.category).sum + 13 ≤ R.locals) (hc : cells ≤ R.cells) (hs : slots ≤ R.slots) {x y : Int32} (hdg : decode cc pc = .ok (.invokestatic idx, 3))
    (kk : W p l e R s m args below meth c H locs cells slots Q (F0 m (pc + 3) ls (.int (zmx x y) :: rest))) : W p l e R s m args below meth c H locs cells slots Q (F0 m pc ls (.int y :: .int x :: rest)) := by
  obtain ⟨⟨h1, h2, h3, -, -⟩, h4⟩ := mv
  rw [z_maxe.1] at h1 h3 h4
  rw [z_maxe.2] at h3
  exact va_mmax X.1 X.2.1 (X.2.2.1.trans hl.1.symm) X.2.2.2.1 (X.ts _ h1) (X.ts _ h4) (X.ts _ h2) (X.ts _ h3) hf hlo hc hs hdg kk
end ZMM
