/-! counting bits -/
theorem bt_nI {n i : Nat} (hi : i < 32) : bt (nI n) i = n.testBit i := by
  show (BitVec.ofNat 32 n).getLsbD i = n.testBit i
  rw [BitVec.getLsbD_ofNat]
  simp [hi]
theorem nI_ex (x : Int32) : ∃ n, n < 2 ^ 32 ∧ x = nI n := ⟨x.toBitVec.toNat, x.toBitVec.isLt, Int32.toBitVec_inj.mp (by show _ = BitVec.ofNat 32 _; simp)⟩
theorem tb_big {n j : Nat} (hn : n < 2 ^ 32) (hj : 32 ≤ j) : n.testBit j = false := Nat.testBit_lt_two_pow (Nat.lt_of_lt_of_le hn (Nat.pow_le_pow_right (by decide) hj))
theorem zush_nI {n k : Nat} (hn : n < 2 ^ 32) (hk : k < 32) : zush (nI n) (nI k) = nI (n / 2 ^ k) := by
  apply b_ext
  intro i hi
  rw [show bt (zush (nI n) (nI k)) i = bt (nI n) (k + i) from b_ushr k hk (nI n) i, bt_nI hi, Nat.testBit_div_two_pow]
  by_cases h : k + i < 32
  · rw [bt_nI h, Nat.add_comm]
  · rw [b_big (by omega), tb_big hn (by omega)]
/-- the bits of a number -/
def pcn (W n : Nat) : Nat := fb_ct n.testBit W
theorem bC_nI (n : Nat) : bC (nI n) = pcn 32 n := fb_ct_cong fun _ hk => bt_nI hk
theorem pcn_s (W n : Nat) : pcn (W + 1) n = n % 2 + pcn W (n / 2) := by
  unfold pcn
  rw [Nat.add_comm W 1, fb_ct_split]
  have h1 : fb_ct n.testBit 1 = n % 2 := by
    rw [fb_ct_succ]
    have : fb_ct n.testBit 0 = 0 := rfl
    rw [this, Nat.testBit_zero]
    rcases Nat.mod_two_eq_zero_or_one n with e | e <;> simp [e]
  have h2 : fb_ct (fun k => n.testBit (1 + k)) W = fb_ct (n / 2).testBit W := fb_ct_cong fun k _ => by rw [Nat.add_comm, Nat.testBit_succ]
  rw [h1, h2]
theorem pcn_0 (W : Nat) : pcn W 0 = 0 := fb_ct_zero.mpr fun k _ => Nat.zero_testBit k
theorem pcn_drop : ∀ (W n : Nat), 0 < n → n < 2 ^ W → pcn W (n &&& (n - 1)) + 1 = pcn W n := by
  intro W
  induction W with
  | zero => intro n h1 h2; simp at h2; omega
  | succ W ih =>
    intro n h1 h2
    rw [pcn_s, pcn_s, Nat.and_div_two]
    have hm : (n &&& (n - 1)) % 2 = 0 := by
      rcases Nat.mod_two_eq_zero_or_one (n &&& (n - 1)) with e | e
      · exact e
      · have := Nat.and_mod_two_eq_one.mp e
        omega
    rw [hm]
    rcases Nat.mod_two_eq_zero_or_one n with e | e
    · have e1 : (n - 1) / 2 = n / 2 - 1 := by omega
      have := ih (n / 2) (by omega) (by rw [Nat.pow_succ] at h2; omega)
      rw [e1, e]
      omega
    · have e1 : (n - 1) / 2 = n / 2 := by omega
      rw [e1, e, Nat.and_self]
      omega
theorem pcn_pos {W n : Nat} (h1 : 0 < n) (h2 : n < 2 ^ W) : 0 < pcn W n := by
  have := pcn_drop W n h1 h2
  omega
theorem m_bits {N : Nat} {S : zS} {x : Int32} (hN : 40 < N) : fX8_bits N S x = some (nI (bC x), S) := by
  have key : zw (fX8_bits N S x) (fun q => q = (nI (bC x), S)) := by
    have hle : ∀ y : Int32, bC y ≤ 32 := fun y => fb_ct_le _ _
    unfold fX8_bits fX8_bits_0 lX8_bits_4
    refine zw.loop (fun m y => ∃ z : Int32, bC z = m ∧ m ≤ bC x ∧ y = (S, nI (bC x - m), z)) ?_ N (bC x) _ (by have := hle x; omega) ⟨x, rfl, Nat.le_refl _, by rw [Nat.sub_self]; rfl⟩
    rintro m ⟨S1, x1, x2⟩ Kc ⟨z, hz, hm, hy⟩ ih
    cases hy
    dsimp only
    unfold fX8_bits_4
    obtain ⟨n, hn, e⟩ := nI_ex x2
    by_cases h0 : n = 0
    · refine zw.t (by rw [e, h0]; rfl) (zw.s ?_)
      have : m = 0 := by rw [← hz, e, bC_nI, h0, pcn_0]
      rw [this]
      rfl
    · have hp := pcn_drop 32 n (by omega) hn
      refine zw.f (fun q => ?_) ?_
      · have : bC x2 = 0 := by rw [q]; exact fb_ct_zero.mpr fun k _ => b_0 k
        rw [e, bC_nI] at this
        omega
      · have he : x2 &&& (x2 - 1) = nI (n &&& (n - 1)) := by
          rw [e, show (1 : Int32) = nI 1 from rfl, nI_sub (by omega), nx_and]
        have hmm : m = pcn 32 n := by rw [← hz, e, bC_nI]
        rw [he]
        refine ih (m - 1) _ (by omega) ⟨nI (n &&& (n - 1)), by rw [bC_nI]; omega, by omega, ?_⟩
        rw [nI_1]
        congr 3
        omega
  obtain ⟨q, e1, e2⟩ := key
  rw [e1, e2]
/-! the JDK's way of counting -/
theorem and_l {k x m y l : Nat} (hx : x < 2 ^ k) (hm : m < 2 ^ k) : (2 ^ k * y + x) &&& (2 ^ k * l + m) = 2 ^ k * (y &&& l) + (x &&& m) := by
  apply Nat.eq_of_testBit_eq
  intro i
  rw [Nat.testBit_and, Nat.testBit_two_pow_mul_add _ hx, Nat.testBit_two_pow_mul_add _ hm, Nat.testBit_two_pow_mul_add _ (Nat.and_lt_two_pow x hm)]
  split
  · rw [Nat.testBit_and]
  · rw [Nat.testBit_and]
def ln4 (a b c d : Nat) : Nat := 2 ^ 8 * (2 ^ 8 * (2 ^ 8 * d + c) + b) + a
theorem and_4 {a b c d x y z w : Nat} (h1 : a < 256) (h2 : b < 256) (h3 : c < 256) (g1 : x < 256) (g2 : y < 256) (g3 : z < 256) : ln4 a b c d &&& ln4 x y z w = ln4 (a &&& x) (b &&& y) (c &&& z) (d &&& w) := by
  unfold ln4
  rw [and_l h1 g1, and_l h2 g2, and_l h3 g3]
theorem ln4_ex {n : Nat} (hn : n < 2 ^ 32) : ∃ a b c d, a < 256 ∧ b < 256 ∧ c < 256 ∧ d < 256 ∧ n = ln4 a b c d := ⟨n % 256, n / 256 % 256, n / 65536 % 256, n / 16777216, by omega, by omega, by omega, by omega, by unfold ln4; omega⟩
theorem pcn_4 {a b c d : Nat} (ha : a < 256) (hb : b < 256) (hc : c < 256) : pcn 32 (ln4 a b c d) = pcn 8 a + pcn 8 b + pcn 8 c + pcn 8 d := by
  have key : ∀ {x y W : Nat}, x < 256 → pcn (8 + W) (2 ^ 8 * y + x) = pcn 8 x + pcn W y := by
    intro x y W hx
    unfold pcn
    rw [fb_ct_split]
    congr 1
    · apply fb_ct_cong
      intro k hk
      rw [Nat.testBit_two_pow_mul_add _ hx, if_pos hk]
    · apply fb_ct_cong
      intro k hk
      rw [Nat.testBit_two_pow_mul_add _ hx, if_neg (by omega), Nat.add_sub_cancel_left]
  unfold ln4
  rw [key (W := 24) ha, key (W := 16) hb, key (W := 8) hc]
  omega
def g1n (a : Nat) : Nat := a - (a / 2 &&& 85)
def g2n (a : Nat) : Nat := (a &&& 51) + (a / 4 &&& 51)
theorem g_1 : ∀ (i : Fin 128) (j : Fin 2), (i.val + 128 * j.val) &&& 85 = i.val &&& 85 := by decide +kernel
theorem g_2 : ∀ (i : Fin 64) (j : Fin 4), (i.val + 64 * j.val) &&& 51 = i.val &&& 51 := by decide +kernel
theorem g_3 : ∀ i : Fin 256, g2n (g1n i.val) % 16 ≤ 4 ∧ g2n (g1n i.val) / 16 ≤ 4 ∧ (g2n (g1n i.val) + g2n (g1n i.val) / 16) % 16 = pcn 8 i.val ∧ pcn 8 i.val ≤ 8 := by decide +kernel
theorem sw_1 {a b c d : Nat} (ha : a < 256) (hb : b < 256) (hc : c < 256) (hd : d < 256) : (ln4 a b c d / 2 ^ 1 &&& 1431655765) ≤ ln4 a b c d ∧ ln4 a b c d - (ln4 a b c d / 2 ^ 1 &&& 1431655765) = ln4 (g1n a) (g1n b) (g1n c) (g1n d) := by
  have e : ln4 a b c d / 2 ^ 1 = ln4 (a / 2 + 128 * (b % 2)) (b / 2 + 128 * (c % 2)) (c / 2 + 128 * (d % 2)) (d / 2) := by unfold ln4; omega
  have k1 : ∀ x y : Nat, x < 256 → (x / 2 + 128 * (y % 2)) &&& 85 = x / 2 &&& 85 := fun x y hx => g_1 ⟨x / 2, by omega⟩ ⟨y % 2, by omega⟩
  rw [e, show (1431655765 : Nat) = ln4 85 85 85 85 from rfl, and_4 (by omega) (by omega) (by omega) (by decide) (by decide) (by decide), k1 a b ha, k1 b c hb, k1 c d hc]
  have la : ∀ x : Nat, (x / 2 &&& 85) ≤ x := fun x => Nat.le_trans Nat.and_le_left (Nat.div_le_self _ _)
  have l1 := la a
  have l2 := la b
  have l3 := la c
  have l4 := la d
  unfold g1n ln4
  omega
theorem sw_2 {a b c d : Nat} (ha : a < 256) (hb : b < 256) (hc : c < 256) (hd : d < 256) : (ln4 a b c d &&& 858993459) + (ln4 a b c d / 2 ^ 2 &&& 858993459) = ln4 (g2n a) (g2n b) (g2n c) (g2n d) := by
  have e : ln4 a b c d / 2 ^ 2 = ln4 (a / 4 + 64 * (b % 4)) (b / 4 + 64 * (c % 4)) (c / 4 + 64 * (d % 4)) (d / 4) := by unfold ln4; omega
  have k1 : ∀ x y : Nat, x < 256 → (x / 4 + 64 * (y % 4)) &&& 51 = x / 4 &&& 51 := fun x y hx => g_2 ⟨x / 4, by omega⟩ ⟨y % 4, by omega⟩
  rw [e, show (858993459 : Nat) = ln4 51 51 51 51 from rfl, and_4 ha hb hc (by decide) (by decide) (by decide), and_4 (by omega) (by omega) (by omega) (by decide) (by decide) (by decide), k1 a b ha, k1 b c hb, k1 c d hc]
  unfold g2n ln4
  omega
theorem sw_3 {a b c d : Nat} (ha : a % 16 ≤ 4 ∧ a / 16 ≤ 4) (hb : b % 16 ≤ 4 ∧ b / 16 ≤ 4) (hc : c % 16 ≤ 4 ∧ c / 16 ≤ 4) (hd : d % 16 ≤ 4 ∧ d / 16 ≤ 4) : (ln4 a b c d + ln4 a b c d / 2 ^ 4) &&& 252645135 = ln4 ((a + a / 16) % 16) ((b + b / 16) % 16) ((c + c / 16) % 16) ((d + d / 16) % 16) := by
  have e : ln4 a b c d + ln4 a b c d / 2 ^ 4 = ln4 (a + a / 16 + 16 * (b % 16)) (b + b / 16 + 16 * (c % 16)) (c + c / 16 + 16 * (d % 16)) (d + d / 16) := by unfold ln4; omega
  have k1 : ∀ x : Nat, x &&& 15 = x % 16 := fun x => Nat.and_two_pow_sub_one_eq_mod x 4
  rw [e, show (252645135 : Nat) = ln4 15 15 15 15 from rfl, and_4 (by omega) (by omega) (by omega) (by decide) (by decide) (by decide), k1, k1, k1, k1]
  unfold ln4
  omega
theorem j_bitCount {N : Nat} {S : zS} {x : Int32} : fJ6_bitCount_0f7a4 N S x = some (nI (bC x), S) := by
  obtain ⟨n, hn, rfl⟩ := nI_ex x
  obtain ⟨a, b, c, d, ha, hb, hc, hd, rfl⟩ := ln4_ex hn
  have q1 := g_3 ⟨a, ha⟩
  have q2 := g_3 ⟨b, hb⟩
  have q3 := g_3 ⟨c, hc⟩
  have q4 := g_3 ⟨d, hd⟩
  dsimp only at q1 q2 q3 q4
  have lt1 : ∀ y : Nat, y < 256 → g1n y < 256 := fun y hy => by unfold g1n; omega
  have lt2 : ∀ y : Nat, g2n y < 256 := fun y => by
    have h1 : y &&& 51 ≤ 51 := Nat.and_le_right
    have h2 : y / 4 &&& 51 ≤ 51 := Nat.and_le_right
    unfold g2n; omega
  have lnl : ∀ {p q r s : Nat}, p < 256 → q < 256 → r < 256 → s < 256 → ln4 p q r s < 2 ^ 32 := fun h1 h2 h3 h4 => by unfold ln4; omega
  unfold fJ6_bitCount_0f7a4 fJ6_bitCount_0f7a4_0 zlet
  dsimp only
  have s1 := sw_1 ha hb hc hd
  have e1 : nI (ln4 a b c d) - (zush (nI (ln4 a b c d)) (1 : Int32) &&& 1431655765) = nI (ln4 (g1n a) (g1n b) (g1n c) (g1n d)) := by
    rw [show (1 : Int32) = nI 1 from rfl, zush_nI hn (by decide), show (1431655765 : Int32) = nI 1431655765 from rfl, nx_and, nI_sub s1.1, s1.2]
  rw [e1]
  have h1 := lnl (lt1 a ha) (lt1 b hb) (lt1 c hc) (lt1 d hd)
  have e2 : (nI (ln4 (g1n a) (g1n b) (g1n c) (g1n d)) &&& 858993459) + (zush (nI (ln4 (g1n a) (g1n b) (g1n c) (g1n d))) (2 : Int32) &&& 858993459) = nI (ln4 (g2n (g1n a)) (g2n (g1n b)) (g2n (g1n c)) (g2n (g1n d))) := by
    rw [show (2 : Int32) = nI 2 from rfl, zush_nI h1 (by decide), show (858993459 : Int32) = nI 858993459 from rfl, nx_and, nx_and, nI_add, sw_2 (lt1 a ha) (lt1 b hb) (lt1 c hc) (lt1 d hd)]
  rw [e2]
  have h2 := lnl (lt2 (g1n a)) (lt2 (g1n b)) (lt2 (g1n c)) (lt2 (g1n d))
  have e3 : (nI (ln4 (g2n (g1n a)) (g2n (g1n b)) (g2n (g1n c)) (g2n (g1n d))) + zush (nI (ln4 (g2n (g1n a)) (g2n (g1n b)) (g2n (g1n c)) (g2n (g1n d)))) (4 : Int32)) &&& 252645135 = nI (ln4 (pcn 8 a) (pcn 8 b) (pcn 8 c) (pcn 8 d)) := by
    rw [show (4 : Int32) = nI 4 from rfl, zush_nI h2 (by decide), nI_add, show (252645135 : Int32) = nI 252645135 from rfl, nx_and, sw_3 ⟨q1.1, q1.2.1⟩ ⟨q2.1, q2.2.1⟩ ⟨q3.1, q3.2.1⟩ ⟨q4.1, q4.2.1⟩, q1.2.2.1, q2.2.2.1, q3.2.2.1, q4.2.2.1]
  rw [e3, bC_nI, pcn_4 ha hb hc]
  have p1 := q1.2.2.2
  have p2 := q2.2.2.2
  have p3 := q3.2.2.2
  have p4 := q4.2.2.2
  generalize pcn 8 a = pa at *
  generalize pcn 8 b = pb at *
  generalize pcn 8 c = pc at *
  generalize pcn 8 d = pd at *
  have h3 : ln4 pa pb pc pd < 2 ^ 32 := lnl (by omega) (by omega) (by omega) (by omega)
  rw [show (8 : Int32) = nI 8 from rfl, zush_nI h3 (by decide), nI_add, show (16 : Int32) = nI 16 from rfl, zush_nI (by unfold ln4; omega) (by decide), nI_add, show (63 : Int32) = nI (2 ^ 6 - 1) from rfl, nx_and, Nat.and_two_pow_sub_one_eq_mod]
  have f1 : ln4 pa pb pc pd / 2 ^ 8 = pb + 256 * pc + 65536 * pd := by unfold ln4; omega
  have f2 : ln4 pa pb pc pd + ln4 pa pb pc pd / 2 ^ 8 = (pa + pb) + 256 * (pb + pc) + 65536 * (pc + pd) + 16777216 * pd := by rw [f1]; unfold ln4; omega
  rw [f2]
  have f3 : ((pa + pb) + 256 * (pb + pc) + 65536 * (pc + pd) + 16777216 * pd) / 2 ^ 16 = (pc + pd) + 256 * pd := by omega
  rw [f3]
  congr 3
  omega
