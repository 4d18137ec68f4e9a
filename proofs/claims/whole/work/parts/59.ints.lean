theorem fb_rng (x : Int32) : -2147483648 ≤ x.toInt ∧ x.toInt < 2147483648 := by
  have h1 := Int32.le_toInt x
  have h2 := Int32.toInt_lt x
  omega
theorem fb_bmod {z : Int} (h1 : -2147483648 ≤ z) (h2 : z < 2147483648) : z.bmod (2 ^ 32) = z := by
  rw [Int.bmod_eq_of_le (by omega) (by omega)]
theorem fb_addI {x y : Int32} (h1 : -2147483648 ≤ x.toInt + y.toInt) (h2 : x.toInt + y.toInt < 2147483648) : (x + y).toInt = x.toInt + y.toInt := by
  rw [Int32.toInt_add, fb_bmod h1 h2]
theorem fb_subI {x y : Int32} (h1 : -2147483648 ≤ x.toInt - y.toInt) (h2 : x.toInt - y.toInt < 2147483648) : (x - y).toInt = x.toInt - y.toInt := by
  rw [Int32.toInt_sub, fb_bmod h1 h2]
theorem fb_mulI {x y : Int32} (h1 : -2147483648 ≤ x.toInt * y.toInt) (h2 : x.toInt * y.toInt < 2147483648) : (x * y).toInt = x.toInt * y.toInt := by
  rw [Int32.toInt_mul, fb_bmod h1 h2]
theorem fb_negI {x : Int32} (h : x.toInt ≠ -2147483648) : (-x).toInt = -x.toInt := by
  have := fb_rng x
  rw [Int32.toInt_neg, fb_bmod (by omega) (by omega)]
theorem fb_ofI {z : Int} (h1 : -2147483648 ≤ z) (h2 : z < 2147483648) : (Int32.ofInt z).toInt = z := by
  rw [Int32.toInt_ofInt, fb_bmod h1 h2]
theorem fb_asI (x : Int32) : Int32.ofInt x.toInt = x := Int32.ofInt_toInt x
theorem irm_int {q : Nat} (hq : isP q) {z : Int32} (h1 : -2000000 ≤ z.toInt) (h2 : z.toInt ≤ 2000000) : (irm z (nI (q + 1))).toInt = z.toInt - z.toInt.tdiv ((q + 1 : Nat) : Int) * ((q + 1 : Nat) : Int) ∧ -((q + 1 : Nat) : Int) < (irm z (nI (q + 1))).toInt ∧ (irm z (nI (q + 1))).toInt < ((q + 1 : Nat) : Int) := by
  have hl := isP_lo hq
  have hP : (nI (q + 1)).toInt = ((q + 1 : Nat) : Int) := nI_toInt (by omega)
  have e1 : (z / nI (q + 1)).toInt = z.toInt.tdiv ((q + 1 : Nat) : Int) := by
    rw [Int32.toInt_div_of_ne_left, hP]
    intro e
    rw [e] at h1
    exact absurd h1 (by decide)
  have a1 := Int.tmod_lt_of_pos z.toInt (show (0 : Int) < ((q + 1 : Nat) : Int) by omega)
  have a2 := Int.lt_tmod_of_pos z.toInt (show (0 : Int) < ((q + 1 : Nat) : Int) by omega)
  have a3 := Int.tmod_def z.toInt ((q + 1 : Nat) : Int)
  have a4 : z.toInt.tdiv ((q + 1 : Nat) : Int) * ((q + 1 : Nat) : Int) = ((q + 1 : Nat) : Int) * z.toInt.tdiv ((q + 1 : Nat) : Int) := Int.mul_comm _ _
  have e2 : (z / nI (q + 1) * nI (q + 1)).toInt = z.toInt.tdiv ((q + 1 : Nat) : Int) * ((q + 1 : Nat) : Int) := by
    rw [fb_mulI, e1, hP]
    · rw [e1, hP]; omega
    · rw [e1, hP]; omega
  have e3 : (irm z (nI (q + 1))).toInt = z.toInt - z.toInt.tdiv ((q + 1 : Nat) : Int) * ((q + 1 : Nat) : Int) := by
    show (z - z / nI (q + 1) * nI (q + 1)).toInt = _
    rw [fb_subI, e2]
    · rw [e2]; omega
    · rw [e2]; omega
  refine ⟨e3, ?_, ?_⟩ <;> rw [e3] <;> omega
theorem nI_inj2 {z : Int32} {n : Nat} (hn : n < 2 ^ 31) (h : z.toInt = (n : Int)) : z = nI n := by
  apply Int32.toInt_inj.mp
  rw [h, nI_toInt hn]
