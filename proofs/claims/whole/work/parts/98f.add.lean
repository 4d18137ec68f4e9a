/-! add: the reference -/
theorem scl_1 {q : Nat} (f g : PS q) : padd f (pscl g 1) = padd f g := by
  funext k
  show f k + g k * 1 = f k + g k
  generalize f k = x
  generalize g k = y
  grind
theorem rg_W {A : Type} [Lean.Grind.CommRing A] (O X u z Y w v C S : A) : (((O * X) * u) * z + ((O * Y) * w) * v) + C * S = O * ((X * u) * z + (Y * w) * v) + C * S := by grind
theorem m_addIn {t : fcS} {q C c i k a b w z : Nat} {cv : Nat → Nat × Nat × Nat} (hq : isP q) (hC : C ≤ 8) (hB : RB t q) (hR : RC t q C cv) (hc : c < C) (hV : cvV q (cv c)) (hP6 : dl (cvP q (cv c)) 6) (hi : i < 600) (hk : k < 600) (f1 : fga t 62 i = nI a) (f2 : fga t 63 i = nI b) (f3 : fga t 62 k = nI w) (f4 : fga t 63 k = nI z) (la : a < (q + 1) ^ 3) (lb : b < (q + 1) ^ 2) (lw : w < (q + 1) ^ 3) (lz : z < (q + 1) ^ 2) (u0 : pn q a ≠ pz) (U0 : smU (pn q a) (pn q b) (pn q w) (pn q z) ≠ pz) {post : Int32 → fcS → Prop} (hh : ∀ t2, eqW t t2 → rwI t2 10 (smU (pn q a) (pn q b) (pn q w) (pn q z)) → rwI t2 11 (smV (cvP q (cv c)) (pn q a) (pn q b) (pn q w) (pn q z)) → rwI t2 24 (cvP q (cv c)) → ∃ n0, q_X5_addOf_263 post n0 (nI c) t2) : q_X5_addOf t (nI c) (nI i) (nI k) post := by
  have hl := isP_lo hq
  have h30 : (q + 1) ^ 3 < 2 ^ 30 := pw7 hq (by omega)
  have h16 : (q + 1) ^ 3 ≤ (q + 1) ^ 16 := Nat.pow_le_pow_right (by omega) (by omega)
  have h23 : (q + 1) ^ 2 ≤ (q + 1) ^ 3 := Nat.pow_le_pow_right (by omega) (by omega)
  have n1 : (1 : Int32) = nI (1 : Fin (q + 1)).val := by
    have : (1 : Fin (q + 1)).val = 1 := Nat.mod_eq_of_lt (by omega : 1 < q + 1)
    rw [this]; rfl
  have du : dl (pn q a) 3 := pn_dl la
  have dv : dl (pn q b) 2 := pn_dl lb
  have dw : dl (pn q w) 3 := pn_dl lw
  have dz : dl (pn q z) 2 := pn_dl lz
  have w0 := eqW_rf t
  unfold q_X5_addOf
  rw [nI_clamp (show i < 2 ^ 31 by omega), nI_clamp (show k < 2 ^ 31 by omega), f1]
  refine ⟨vp_in_nI hi (by omega), ?_⟩
  refine m_load (a := 20) hq (RB_W hB w0).1 (by omega) (by omega) (by omega) (fun t1 e1 x20 => ?_)
  have w1 := eqW_tr w0 (eqW_L e1)
  rw [w1.2.2 63 (by omega), f2]
  refine ⟨vp_in_nI hi (by omega), ?_⟩
  refine m_load (a := 21) hq (RB_W hB w1).1 (by omega) (by omega) (by omega) (fun t2 e2 x21 => ?_)
  have w2 := eqW_tr w1 (eqW_L e2)
  have x20_2 := eqL_row e2 (by simp) x20
  rw [w2.2.2 62 (by omega), f3]
  refine ⟨vp_in_nI hk (by omega), ?_⟩
  refine m_load (a := 22) hq (RB_W hB w2).1 (by omega) (by omega) (by omega) (fun t3 e3 x22 => ?_)
  have w3 := eqW_tr w2 (eqW_L e3)
  have x20_3 := eqL_row e3 (by simp) x20_2
  have x21_3 := eqL_row e3 (by simp) x21
  rw [w3.2.2 63 (by omega), f4]
  refine ⟨vp_in_nI hk (by omega), ?_⟩
  refine m_load (a := 23) hq (RB_W hB w3).1 (by omega) (by omega) (by omega) (fun t4 e4 x23 => ?_)
  have w4 := eqW_tr w3 (eqW_L e4)
  have x20_4 := eqL_row e4 (by simp) x20_3
  have x21_4 := eqL_row e4 (by simp) x21_3
  have x22_4 := eqL_row e4 (by simp) x22
  clear f1 f2 f3 f4
  refine m_loadOwn (a := 24) hq hC (RC_U hR (eqU_W w4)) hc hV (by omega) (fun t5 e5 x24 => ?_)
  have w5 := eqW_tr w4 (eqW_L e5)
  have x20_5 := eqL_row e5 (by simp) x20_4
  have x21_5 := eqL_row e5 (by simp) x21_4
  have x22_5 := eqL_row e5 (by simp) x22_4
  have x23_5 := eqL_row e5 (by simp) x23
  have eU : smU (pn q a) (pn q b) (pn q w) (pn q z) = pquo (pl_mul (pn q a) (pn q w)) (pl_mul (smd (pn q a) (pn q b) (pn q w) (pn q z)) (smd (pn q a) (pn q b) (pn q w) (pn q z))) := rfl
  have eV : smV (cvP q (cv c)) (pn q a) (pn q b) (pn q w) (pn q z) = prem (pquo (smW (cvP q (cv c)) (pn q a) (pn q b) (pn q w) (pn q z)) (smd (pn q a) (pn q b) (pn q w) (pn q z))) (smU (pn q a) (pn q b) (pn q w) (pn q z)) := rfl
  have eW : smW (cvP q (cv c)) (pn q a) (pn q b) (pn q w) (pn q z) = padd (pl_mul (pcof (pgcd (pn q a) (pn q w)) (padd (pn q b) (pn q z))) (padd (pl_mul (pl_mul (pcof (pn q a) (pn q w)) (pn q a)) (pn q z)) (pl_mul (pl_mul (pcoy (pn q a) (pn q w)) (pn q w)) (pn q b)))) (pl_mul (pcoy (pgcd (pn q a) (pn q w)) (padd (pn q b) (pn q z))) (padd (pl_mul (pn q b) (pn q z)) (cvP q (cv c)))) := rfl
  have eD : smd (pn q a) (pn q b) (pn q w) (pn q z) = pgcd (pgcd (pn q a) (pn q w)) (padd (pn q b) (pn q z)) := rfl
  generalize pn q a = u at *
  generalize pn q b = v at *
  generalize pn q w = ww at *
  generalize pn q z = zz at *
  generalize cvP q (cv c) = P at *
  generalize smU u v ww zz = U at *
  generalize smV P u v ww zz = V at *
  generalize smW P u v ww zz = W at *
  generalize smd u v ww zz = D at *
  refine m_com (v1 := 10) (v2 := 11) (v3 := 12) (ra := 20) (rb := 22) (K := 2) hq (RB_W hB w5).1 (by omega) (by omega) (by omega) (by omega) (by omega) (by omega) (by omega) (by omega) (by omega) (by omega) (by omega) x20_5 x22_5 du dw (Or.inl u0) (fun t6 e6 xB xX xY => ?_)
  have w6 := eqW_tr w5 (eqW_L e6)
  have x20_6 := eqL_row e6 (by simp) x20_5
  have x21_6 := eqL_row e6 (by simp) x21_5
  have x22_6 := eqL_row e6 (by simp) x22_5
  have x23_6 := eqL_row e6 (by simp) x23_5
  have x24_6 := eqL_row e6 (by simp) x24
  have B0 : pgcd u ww ≠ pz := gcd_ne hq ⟨_, du⟩ (dl_mono dw (by omega)) (Or.inl u0)
  have dB : dl (pgcd u ww) 3 := dvd_dl hq du (dl_mono dw (by omega)) u0
  have dX : dl (pcof u ww) 3 := pcof_dl hq ⟨_, du⟩ dw (by omega) (by omega)
  have dY : dl (pcoy u ww) 3 := pcoy_dl hq du dw (by omega) (by omega)
  generalize pcof u ww = X at *
  generalize pcoy u ww = Y at *
  generalize pgcd u ww = B at *
  rw [show (1 : Int32) = nI (1 : Fin (q + 1)).val from n1]
  refine m_join (a := 25) (b := 21) (d := 23) hq (RB_W hB w6).1 (by omega) (by omega) (by omega) (by omega) (by omega) 1 x21_6 x23_6 (fun t7 e7 xS => ?_)
  have w7 := eqW_tr w6 (eqW_L e7)
  have x20_7 := eqL_row e7 (by simp) x20_6
  have x21_7 := eqL_row e7 (by simp) x21_6
  have x22_7 := eqL_row e7 (by simp) x22_6
  have x23_7 := eqL_row e7 (by simp) x23_6
  have x24_7 := eqL_row e7 (by simp) x24_6
  have xB_7 := eqL_row e7 (by simp) xB
  have xX_7 := eqL_row e7 (by simp) xX
  have xY_7 := eqL_row e7 (by simp) xY
  rw [scl_1] at xS
  have dS : dl (padd v zz) 2 := dl_add dv dz
  refine m_com (v1 := 13) (v2 := 14) (v3 := 15) (ra := 10) (rb := 25) (K := 2) hq (RB_W hB w7).1 (by omega) (by omega) (by omega) (by omega) (by omega) (by omega) (by omega) (by omega) (by omega) (by omega) (by omega) xB_7 xS dB (dl_mono dS (by omega)) (Or.inl B0) (fun t8 e8 xD xO xC => ?_)
  have w8 := eqW_tr w7 (eqW_L e8)
  have x20_8 := eqL_row e8 (by simp) x20_7
  have x21_8 := eqL_row e8 (by simp) x21_7
  have x22_8 := eqL_row e8 (by simp) x22_7
  have x23_8 := eqL_row e8 (by simp) x23_7
  have x24_8 := eqL_row e8 (by simp) x24_7
  have xB_8 := eqL_row e8 (by simp) xB_7
  have xX_8 := eqL_row e8 (by simp) xX_7
  have xY_8 := eqL_row e8 (by simp) xY_7
  have xS_8 := eqL_row e8 (by simp) xS
  have D0 : pgcd B (padd v zz) ≠ pz := gcd_ne hq ⟨_, dB⟩ (dl_mono dS (by omega)) (Or.inl B0)
  have dD : dl (pgcd B (padd v zz)) 3 := dvd_dl hq dB (dl_mono dS (by omega)) B0
  have dO : dl (pcof B (padd v zz)) 2 := pcof_dl hq ⟨_, dB⟩ dS (by omega) (by omega)
  have dC : dl (pcoy B (padd v zz)) 3 := pcoy_dl hq dB (dl_mono dS (by omega)) (by omega) (by omega)
  rw [← eD] at xD D0 dD
  generalize pcof B (padd v zz) = O at *
  generalize pcoy B (padd v zz) = Cc at *
  refine m_mul (r := 16) (a := 14) (b := 11) hq (RB_W hB w8).1 (by omega) (by omega) (by omega) (by omega) (by omega) xO xX_8 dO dX (by omega) (fun t9 e9 xOX => ?_)
  have w9 := eqW_tr w8 (eqW_L e9)
  have x20_9 := eqL_row e9 (by simp) x20_8
  have x21_9 := eqL_row e9 (by simp) x21_8
  have x22_9 := eqL_row e9 (by simp) x22_8
  have x23_9 := eqL_row e9 (by simp) x23_8
  have x24_9 := eqL_row e9 (by simp) x24_8
  have xB_9 := eqL_row e9 (by simp) xB_8
  have xX_9 := eqL_row e9 (by simp) xX_8
  have xY_9 := eqL_row e9 (by simp) xY_8
  have xS_9 := eqL_row e9 (by simp) xS_8
  have xD_9 := eqL_row e9 (by simp) xD
  have xO_9 := eqL_row e9 (by simp) xO
  have xC_9 := eqL_row e9 (by simp) xC
  refine m_mul (r := 17) (a := 14) (b := 12) hq (RB_W hB w9).1 (by omega) (by omega) (by omega) (by omega) (by omega) xO_9 xY_9 dO dY (by omega) (fun t10 e10 xOY => ?_)
  have w10 := eqW_tr w9 (eqW_L e10)
  have x20_10 := eqL_row e10 (by simp) x20_9
  have x21_10 := eqL_row e10 (by simp) x21_9
  have x22_10 := eqL_row e10 (by simp) x22_9
  have x23_10 := eqL_row e10 (by simp) x23_9
  have x24_10 := eqL_row e10 (by simp) x24_9
  have xB_10 := eqL_row e10 (by simp) xB_9
  have xX_10 := eqL_row e10 (by simp) xX_9
  have xY_10 := eqL_row e10 (by simp) xY_9
  have xS_10 := eqL_row e10 (by simp) xS_9
  have xD_10 := eqL_row e10 (by simp) xD_9
  have xO_10 := eqL_row e10 (by simp) xO_9
  have xC_10 := eqL_row e10 (by simp) xC_9
  have xOX_10 := eqL_row e10 (by simp) xOX
  refine m_mul (r := 10) (a := 16) (b := 20) hq (RB_W hB w10).1 (by omega) (by omega) (by omega) (by omega) (by omega) xOX_10 x20_10 (dl_mul dO dX) du (by omega) (fun t11 e11 xA1 => ?_)
  have w11 := eqW_tr w10 (eqW_L e11)
  have x20_11 := eqL_row e11 (by simp) x20_10
  have x21_11 := eqL_row e11 (by simp) x21_10
  have x22_11 := eqL_row e11 (by simp) x22_10
  have x23_11 := eqL_row e11 (by simp) x23_10
  have x24_11 := eqL_row e11 (by simp) x24_10
  have xX_11 := eqL_row e11 (by simp) xX_10
  have xY_11 := eqL_row e11 (by simp) xY_10
  have xS_11 := eqL_row e11 (by simp) xS_10
  have xD_11 := eqL_row e11 (by simp) xD_10
  have xO_11 := eqL_row e11 (by simp) xO_10
  have xC_11 := eqL_row e11 (by simp) xC_10
  have xOX_11 := eqL_row e11 (by simp) xOX_10
  have xOY_11 := eqL_row e11 (by simp) xOY
  refine m_mul (r := 11) (a := 10) (b := 23) hq (RB_W hB w11).1 (by omega) (by omega) (by omega) (by omega) (by omega) xA1 x23_11 (dl_mul (dl_mul dO dX) du) dz (by omega) (fun t12 e12 xA2 => ?_)
  have w12 := eqW_tr w11 (eqW_L e12)
  have x20_12 := eqL_row e12 (by simp) x20_11
  have x21_12 := eqL_row e12 (by simp) x21_11
  have x22_12 := eqL_row e12 (by simp) x22_11
  have x23_12 := eqL_row e12 (by simp) x23_11
  have x24_12 := eqL_row e12 (by simp) x24_11
  have xY_12 := eqL_row e12 (by simp) xY_11
  have xS_12 := eqL_row e12 (by simp) xS_11
  have xD_12 := eqL_row e12 (by simp) xD_11
  have xO_12 := eqL_row e12 (by simp) xO_11
  have xC_12 := eqL_row e12 (by simp) xC_11
  have xOX_12 := eqL_row e12 (by simp) xOX_11
  have xOY_12 := eqL_row e12 (by simp) xOY_11
  have xA1_12 := eqL_row e12 (by simp) xA1
  refine m_mul (r := 10) (a := 17) (b := 22) hq (RB_W hB w12).1 (by omega) (by omega) (by omega) (by omega) (by omega) xOY_12 x22_12 (dl_mul dO dY) dw (by omega) (fun t13 e13 xA3 => ?_)
  have w13 := eqW_tr w12 (eqW_L e13)
  have x20_13 := eqL_row e13 (by simp) x20_12
  have x21_13 := eqL_row e13 (by simp) x21_12
  have x22_13 := eqL_row e13 (by simp) x22_12
  have x23_13 := eqL_row e13 (by simp) x23_12
  have x24_13 := eqL_row e13 (by simp) x24_12
  have xY_13 := eqL_row e13 (by simp) xY_12
  have xS_13 := eqL_row e13 (by simp) xS_12
  have xD_13 := eqL_row e13 (by simp) xD_12
  have xO_13 := eqL_row e13 (by simp) xO_12
  have xC_13 := eqL_row e13 (by simp) xC_12
  have xOX_13 := eqL_row e13 (by simp) xOX_12
  have xOY_13 := eqL_row e13 (by simp) xOY_12
  have xA2_13 := eqL_row e13 (by simp) xA2
  refine m_mul (r := 12) (a := 10) (b := 21) hq (RB_W hB w13).1 (by omega) (by omega) (by omega) (by omega) (by omega) xA3 x21_13 (dl_mul (dl_mul dO dY) dw) dv (by omega) (fun t14 e14 xA4 => ?_)
  have w14 := eqW_tr w13 (eqW_L e14)
  have x20_14 := eqL_row e14 (by simp) x20_13
  have x21_14 := eqL_row e14 (by simp) x21_13
  have x22_14 := eqL_row e14 (by simp) x22_13
  have x23_14 := eqL_row e14 (by simp) x23_13
  have x24_14 := eqL_row e14 (by simp) x24_13
  have xS_14 := eqL_row e14 (by simp) xS_13
  have xD_14 := eqL_row e14 (by simp) xD_13
  have xO_14 := eqL_row e14 (by simp) xO_13
  have xC_14 := eqL_row e14 (by simp) xC_13
  have xOX_14 := eqL_row e14 (by simp) xOX_13
  have xOY_14 := eqL_row e14 (by simp) xOY_13
  have xA2_14 := eqL_row e14 (by simp) xA2_13
  have xA3_14 := eqL_row e14 (by simp) xA3
  refine m_join (a := 14) (b := 11) (d := 12) hq (RB_W hB w14).1 (by omega) (by omega) (by omega) (by omega) (by omega) 1 xA2_14 xA4 (fun t15 e15 xA5 => ?_)
  have w15 := eqW_tr w14 (eqW_L e15)
  have x20_15 := eqL_row e15 (by simp) x20_14
  have x21_15 := eqL_row e15 (by simp) x21_14
  have x22_15 := eqL_row e15 (by simp) x22_14
  have x23_15 := eqL_row e15 (by simp) x23_14
  have x24_15 := eqL_row e15 (by simp) x24_14
  have xS_15 := eqL_row e15 (by simp) xS_14
  have xD_15 := eqL_row e15 (by simp) xD_14
  have xC_15 := eqL_row e15 (by simp) xC_14
  have xOX_15 := eqL_row e15 (by simp) xOX_14
  have xOY_15 := eqL_row e15 (by simp) xOY_14
  have xA2_15 := eqL_row e15 (by simp) xA2_14
  have xA3_15 := eqL_row e15 (by simp) xA3_14
  have xA4_15 := eqL_row e15 (by simp) xA4
  rw [scl_1] at xA5
  refine m_mul (r := 10) (a := 21) (b := 23) hq (RB_W hB w15).1 (by omega) (by omega) (by omega) (by omega) (by omega) x21_15 x23_15 dv dz (by omega) (fun t16 e16 xA6 => ?_)
  have w16 := eqW_tr w15 (eqW_L e16)
  have x20_16 := eqL_row e16 (by simp) x20_15
  have x21_16 := eqL_row e16 (by simp) x21_15
  have x22_16 := eqL_row e16 (by simp) x22_15
  have x23_16 := eqL_row e16 (by simp) x23_15
  have x24_16 := eqL_row e16 (by simp) x24_15
  have xS_16 := eqL_row e16 (by simp) xS_15
  have xD_16 := eqL_row e16 (by simp) xD_15
  have xC_16 := eqL_row e16 (by simp) xC_15
  have xOX_16 := eqL_row e16 (by simp) xOX_15
  have xOY_16 := eqL_row e16 (by simp) xOY_15
  have xA2_16 := eqL_row e16 (by simp) xA2_15
  have xA4_16 := eqL_row e16 (by simp) xA4_15
  have xA5_16 := eqL_row e16 (by simp) xA5
  refine m_join (a := 11) (b := 10) (d := 24) hq (RB_W hB w16).1 (by omega) (by omega) (by omega) (by omega) (by omega) 1 xA6 x24_16 (fun t17 e17 xA7 => ?_)
  have w17 := eqW_tr w16 (eqW_L e17)
  have x20_17 := eqL_row e17 (by simp) x20_16
  have x21_17 := eqL_row e17 (by simp) x21_16
  have x22_17 := eqL_row e17 (by simp) x22_16
  have x23_17 := eqL_row e17 (by simp) x23_16
  have x24_17 := eqL_row e17 (by simp) x24_16
  have xS_17 := eqL_row e17 (by simp) xS_16
  have xD_17 := eqL_row e17 (by simp) xD_16
  have xC_17 := eqL_row e17 (by simp) xC_16
  have xOX_17 := eqL_row e17 (by simp) xOX_16
  have xOY_17 := eqL_row e17 (by simp) xOY_16
  have xA4_17 := eqL_row e17 (by simp) xA4_16
  have xA5_17 := eqL_row e17 (by simp) xA5_16
  have xA6_17 := eqL_row e17 (by simp) xA6
  rw [scl_1] at xA7
  have dSq : dl (padd (pl_mul v zz) P) 6 := dl_add (dl_mono (dl_mul dv dz) (by omega)) hP6
  refine m_mul (r := 12) (a := 15) (b := 11) hq (RB_W hB w17).1 (by omega) (by omega) (by omega) (by omega) (by omega) xC_17 xA7 dC dSq (by omega) (fun t18 e18 xA8 => ?_)
  have w18 := eqW_tr w17 (eqW_L e18)
  have x20_18 := eqL_row e18 (by simp) x20_17
  have x21_18 := eqL_row e18 (by simp) x21_17
  have x22_18 := eqL_row e18 (by simp) x22_17
  have x23_18 := eqL_row e18 (by simp) x23_17
  have x24_18 := eqL_row e18 (by simp) x24_17
  have xS_18 := eqL_row e18 (by simp) xS_17
  have xD_18 := eqL_row e18 (by simp) xD_17
  have xC_18 := eqL_row e18 (by simp) xC_17
  have xOX_18 := eqL_row e18 (by simp) xOX_17
  have xOY_18 := eqL_row e18 (by simp) xOY_17
  have xA5_18 := eqL_row e18 (by simp) xA5_17
  have xA6_18 := eqL_row e18 (by simp) xA6_17
  have xA7_18 := eqL_row e18 (by simp) xA7
  refine m_join (a := 10) (b := 14) (d := 12) hq (RB_W hB w18).1 (by omega) (by omega) (by omega) (by omega) (by omega) 1 xA5_18 xA8 (fun t19 e19 xW => ?_)
  have w19 := eqW_tr w18 (eqW_L e19)
  have x20_19 := eqL_row e19 (by simp) x20_18
  have x21_19 := eqL_row e19 (by simp) x21_18
  have x22_19 := eqL_row e19 (by simp) x22_18
  have x23_19 := eqL_row e19 (by simp) x23_18
  have x24_19 := eqL_row e19 (by simp) x24_18
  have xS_19 := eqL_row e19 (by simp) xS_18
  have xD_19 := eqL_row e19 (by simp) xD_18
  have xC_19 := eqL_row e19 (by simp) xC_18
  have xOX_19 := eqL_row e19 (by simp) xOX_18
  have xOY_19 := eqL_row e19 (by simp) xOY_18
  have xA5_19 := eqL_row e19 (by simp) xA5_18
  have xA7_19 := eqL_row e19 (by simp) xA7_18
  have xA8_19 := eqL_row e19 (by simp) xA8
  rw [scl_1] at xW
  have eW2 : padd (padd (pl_mul (pl_mul (pl_mul O X) u) zz) (pl_mul (pl_mul (pl_mul O Y) ww) v)) (pl_mul Cc (padd (pl_mul v zz) P)) = W := by
    rw [eW]
    exact @rg_W (PS q) (serRing (Fin (q + 1))) O X u zz Y ww v Cc (padd (pl_mul v zz) P)
  rw [eW2] at xW
  refine m_div (rq := 18) (rr := 19) (a := 10) (b := 13) hq (RB_W hB w19).1 (by omega) (by omega) (by omega) (by omega) (by omega) (by omega) (by omega) (by omega) (by omega) xW xD_19 D0 (fun t20 e20 xV0 xJ1 => ?_)
  have w20 := eqW_tr w19 (eqW_L e20)
  have x20_20 := eqL_row e20 (by simp) x20_19
  have x21_20 := eqL_row e20 (by simp) x21_19
  have x22_20 := eqL_row e20 (by simp) x22_19
  have x23_20 := eqL_row e20 (by simp) x23_19
  have x24_20 := eqL_row e20 (by simp) x24_19
  have xS_20 := eqL_row e20 (by simp) xS_19
  have xD_20 := eqL_row e20 (by simp) xD_19
  have xC_20 := eqL_row e20 (by simp) xC_19
  have xOX_20 := eqL_row e20 (by simp) xOX_19
  have xOY_20 := eqL_row e20 (by simp) xOY_19
  have xA5_20 := eqL_row e20 (by simp) xA5_19
  have xA7_20 := eqL_row e20 (by simp) xA7_19
  have xA8_20 := eqL_row e20 (by simp) xA8_19
  have xW_20 := eqL_row e20 (by simp) xW
  refine m_mul (r := 12) (a := 20) (b := 22) hq (RB_W hB w20).1 (by omega) (by omega) (by omega) (by omega) (by omega) x20_20 x22_20 du dw (by omega) (fun t21 e21 xuw => ?_)
  have w21 := eqW_tr w20 (eqW_L e21)
  have x20_21 := eqL_row e21 (by simp) x20_20
  have x21_21 := eqL_row e21 (by simp) x21_20
  have x22_21 := eqL_row e21 (by simp) x22_20
  have x23_21 := eqL_row e21 (by simp) x23_20
  have x24_21 := eqL_row e21 (by simp) x24_20
  have xS_21 := eqL_row e21 (by simp) xS_20
  have xD_21 := eqL_row e21 (by simp) xD_20
  have xC_21 := eqL_row e21 (by simp) xC_20
  have xOX_21 := eqL_row e21 (by simp) xOX_20
  have xOY_21 := eqL_row e21 (by simp) xOY_20
  have xA5_21 := eqL_row e21 (by simp) xA5_20
  have xA7_21 := eqL_row e21 (by simp) xA7_20
  have xW_21 := eqL_row e21 (by simp) xW_20
  have xV0_21 := eqL_row e21 (by simp) xV0
  have xJ1_21 := eqL_row e21 (by simp) xJ1
  refine m_mul (r := 14) (a := 13) (b := 13) hq (RB_W hB w21).1 (by omega) (by omega) (by omega) (by omega) (by omega) xD_21 xD_21 dD dD (by omega) (fun t22 e22 xDD => ?_)
  have w22 := eqW_tr w21 (eqW_L e22)
  have x20_22 := eqL_row e22 (by simp) x20_21
  have x21_22 := eqL_row e22 (by simp) x21_21
  have x22_22 := eqL_row e22 (by simp) x22_21
  have x23_22 := eqL_row e22 (by simp) x23_21
  have x24_22 := eqL_row e22 (by simp) x24_21
  have xS_22 := eqL_row e22 (by simp) xS_21
  have xD_22 := eqL_row e22 (by simp) xD_21
  have xC_22 := eqL_row e22 (by simp) xC_21
  have xOX_22 := eqL_row e22 (by simp) xOX_21
  have xOY_22 := eqL_row e22 (by simp) xOY_21
  have xA7_22 := eqL_row e22 (by simp) xA7_21
  have xW_22 := eqL_row e22 (by simp) xW_21
  have xV0_22 := eqL_row e22 (by simp) xV0_21
  have xJ1_22 := eqL_row e22 (by simp) xJ1_21
  have xuw_22 := eqL_row e22 (by simp) xuw
  refine m_div (rq := 10) (rr := 19) (a := 12) (b := 14) hq (RB_W hB w22).1 (by omega) (by omega) (by omega) (by omega) (by omega) (by omega) (by omega) (by omega) (by omega) xuw_22 xDD (fun e => by rcases pm_ne hq dD dD e with e | e <;> exact D0 e) (fun t23 e23 xU xJ2 => ?_)
  have w23 := eqW_tr w22 (eqW_L e23)
  have x20_23 := eqL_row e23 (by simp) x20_22
  have x21_23 := eqL_row e23 (by simp) x21_22
  have x22_23 := eqL_row e23 (by simp) x22_22
  have x23_23 := eqL_row e23 (by simp) x23_22
  have x24_23 := eqL_row e23 (by simp) x24_22
  have xS_23 := eqL_row e23 (by simp) xS_22
  have xD_23 := eqL_row e23 (by simp) xD_22
  have xC_23 := eqL_row e23 (by simp) xC_22
  have xOX_23 := eqL_row e23 (by simp) xOX_22
  have xOY_23 := eqL_row e23 (by simp) xOY_22
  have xA7_23 := eqL_row e23 (by simp) xA7_22
  have xV0_23 := eqL_row e23 (by simp) xV0_22
  have xuw_23 := eqL_row e23 (by simp) xuw_22
  have xDD_23 := eqL_row e23 (by simp) xDD
  rw [← eU] at xU
  refine m_div (rq := 19) (rr := 11) (a := 18) (b := 10) hq (RB_W hB w23).1 (by omega) (by omega) (by omega) (by omega) (by omega) (by omega) (by omega) (by omega) (by omega) xV0_23 xU U0 (fun t24 e24 xJ3 xV => ?_)
  have w24 := eqW_tr w23 (eqW_L e24)
  have x20_24 := eqL_row e24 (by simp) x20_23
  have x21_24 := eqL_row e24 (by simp) x21_23
  have x22_24 := eqL_row e24 (by simp) x22_23
  have x23_24 := eqL_row e24 (by simp) x23_23
  have x24_24 := eqL_row e24 (by simp) x24_23
  have xS_24 := eqL_row e24 (by simp) xS_23
  have xD_24 := eqL_row e24 (by simp) xD_23
  have xC_24 := eqL_row e24 (by simp) xC_23
  have xOX_24 := eqL_row e24 (by simp) xOX_23
  have xOY_24 := eqL_row e24 (by simp) xOY_23
  have xV0_24 := eqL_row e24 (by simp) xV0_23
  have xuw_24 := eqL_row e24 (by simp) xuw_23
  have xDD_24 := eqL_row e24 (by simp) xDD_23
  have xU_24 := eqL_row e24 (by simp) xU
  rw [← eV] at xV
  exact hh t24 w24 xU_24 xV x24_24
