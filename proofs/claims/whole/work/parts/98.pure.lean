theorem lp_all (h : Nat) {L : Nat} {xs : Nat → Int32} (hL : L ≤ 2560) : LPure h L xs := sorry
