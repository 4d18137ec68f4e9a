/-! add: the class -/
theorem dvd_dl {q m : Nat} (hq : isP q) {a b : PS q} (ha : dl a m) (hb : dl b 19) (a0 : a ≠ pz) : dl (pgcd a b) m := by
  obtain ⟨⟨s, is, es⟩, -, -, -, -, n, hn, -⟩ := gcd_is hq ⟨m, ha⟩ hb (Or.inl a0)
  exact div_dl hq ha a0 is ⟨_, hn⟩ es
theorem rg_y {A : Type} [Lean.Grind.CommRing A] {d x a y b : A} (h : d = x * a + y * b) : d - x * a = y * b := by
  rw [h]; clear h; grind
/-- the second factor, as the class has it -/
theorem coy_quo {q : Nat} (hq : isP q) {a b : PS q} (ha : isPol a) (hb : dl b 19) (a0 : a ≠ pz) : pquo (psub (pgcd a b) (pl_mul (pcof a b) a)) b = pcoy a b := by
  obtain ⟨-, -, e, -, iy, -⟩ := gcd_is hq ha hb (Or.inl a0)
  by_cases c : b = pz
  · rw [c, (pqr_z _).1]
    unfold pcoy
    rw [pgx_z]
    funext k
    show (0 : Fin (q + 1)) = 0 * _
    grind
  · have e2 : psub (pgcd a b) (pl_mul (pcof a b) a) = pl_mul (pcoy a b) b := @rg_y (PS q) (serRing (Fin (q + 1))) _ _ _ _ _ e
    rw [e2]
    exact (pquo_mul hq iy ⟨_, hb⟩ c).1
theorem s_red {t : fcS} {q k d g a1 b1 dU : Nat} {P U V m : PS q} (hq : isP q) (hp : rp t q) (h2' : fgi t k 2 = Ni q P) (h3' : fgi t k 3 = nI g) (hP : dl P (d + 1)) (hP0 : P d ≠ 0) (hd2 : d = 2 * g + 1) (hg1 : 1 ≤ g) (hg : g ≤ 2) (hU : dl U (dU + 1)) (U1 : U dU = 1) (hV : dl V dU) (im : isPol m) (hm : psub P (pl_mul V V) = pl_mul U m) (hdU : dU ≤ 2 * g) (ha : (if dU ≤ g then U else rdU P U V) = pn q a1) (hb : (if dU ≤ g then V else rdV P U V) = pn q b1) (la : a1 < 2 * (q + 1) ^ 2) (lb : b1 < (q + 1) ^ 2) {post : Int32 → fcS → Prop} (h : post (nI (a1 * (q + 1) ^ 2 + b1)) t) : q_X0_reduced t k (Ni q U) (Ni q V) post := by
  have hl := isP_lo hq
  have hp' : fgi t 1 0 = nI (q + 1) := hp
  have h8 : (q + 1) ^ 8 < 2 ^ 30 := pw7 hq (by omega)
  have h3 : (q + 1) ^ 3 < 2 ^ 30 := pw7 hq (by omega)
  have x2 : (q + 1) ^ 3 = (q + 1) ^ 2 * (q + 1) := Nat.pow_succ _ _
  have x3 : (q + 1) ^ 2 * 2 ≤ (q + 1) ^ 2 * (q + 1) := Nat.mul_le_mul_left _ (by omega)
  have o1 := one_ne0 hq
  have fin : ∀ (A B : PS q), A = pn q a1 → B = pn q b1 → q_X0_keyOf t k (Ni q A) (Ni q B) (fun r t1 => post r t1) := fun A B eA eB => by
    show post (Ni q A * fgi t 1 0 * fgi t 1 0 + Ni q B) t
    rw [eA, eB, ← Ni_pn hq h3 (by omega), ← Ni_pn hq h3 (by omega), hp', key_I]
    exact h
  refine ⟨2, ?_⟩
  unfold q_X0_reduced_8
  refine ⟨fun z => absurd z (by decide), fun _ => ?_⟩
  refine s_degS hq hp h8 (dl_mono hU (by omega)) ⟨hU, Or.inr (by rw [U1]; exact o1)⟩ ?_
  rw [h3', h2']
  by_cases c : dU ≤ g
  · rw [if_pos c] at ha hb
    exact ⟨fun _ => fin U V ha hb, fun z => absurd (nI_le c (by omega)) z⟩
  · rw [if_neg c] at ha hb
    obtain ⟨hC, q1, q0, -⟩ := sm_2 hq hP hP0 hd2 hg1 hg hU U1 hV im hm (by omega) hdU
    refine ⟨fun z => absurd z (nI_ge (by omega) (by omega)), fun _ => ?_⟩
    have hV4 : dl V 4 := dl_mono hV (by omega)
    refine s_pro (a := 4) (b := 4) (M := 8) hq hp (by omega) (by omega) h8 hV4 hV4 ?_
    have hP8 : dl P 8 := dl_mono hP (by omega)
    have hVV : dl (pl_mul V V) 8 := dl_mono (dl_mul hV4 hV4) (by omega)
    refine s_dif hq hp h8 hP8 hVV ?_
    refine s_quo hq hp h8 (dl_sub hP8 hVV) (dl_mono hU (by omega)) ?_
    refine s_mon hq hp h8 (dl_mono q1 (by omega)) ?_
    have key : ∀ post' : Int32 → fcS → Prop, post' (Ni q (psub pz V)) t → q_X3_difference t 0 (Ni q V) post' := fun post' h => by
      rw [← Ni_pz (q := q)]
      exact s_dif hq hp h8 (fun _ _ => rfl) (dl_mono hV (by omega)) h
    refine key _ ?_
    obtain ⟨dm, m1, m2, m3, m4, -⟩ := hC
    simp only at m2 m3 m4
    show q_X3_rest t (Ni q (psub pz V)) (Ni q (rdU P U V)) _
    refine s_rest hq hp h8 (dl_sub (fun _ _ => rfl) (dl_mono hV (by omega))) (dl_mono m2 (by omega)) (fun x19 e19 => ?_)
    show q_X0_reduced_8 k post 1 (Ni q (rdU P U V)) (Ni q (rdV P U V)) x19 t
    unfold q_X0_reduced_8
    rw [e19]
    refine ⟨fun z => absurd z (by decide), fun _ => ?_⟩
    refine s_degS hq hp h8 (dl_mono m2 (by omega)) ⟨m2, Or.inr (by rw [m3]; exact o1)⟩ ?_
    rw [h3']
    exact ⟨fun _ => fin _ _ ha hb, fun z => absurd (nI_le m1 (by omega)) z⟩
/-- THE SUM, in the list -/
theorem cls_sum {q g d a b w z : Nat} {P : PS q} (h : cvO P d g) (hm : (a, b) ∈ cls q P g) (hm2 : (w, z) ∈ cls q P g) : ∃ a1 b1 i1, i1 < (cls q P g).length ∧ pr (cls q P g) i1 = (a1, b1) ∧ smC P g (pn q a, pn q b) (pn q w, pn q z) = (pn q a1, pn q b1) := by
  have hq := h.1
  have hP : isPol P := ⟨_, h.2.1⟩
  have hs := (sm_is h.1 h.2.1 h.2.2.1 h.2.2.2.1 h.2.2.2.2.1 h.2.2.2.2.2.1 h.2.2.2.2.2.2 (cls_C hq hP hm) (cls_C hq hP hm2)).1
  obtain ⟨a1, b1, hm1, ea, eb, -⟩ := C_cls hq hP hs
  obtain ⟨i1, hi1, e1⟩ := pr_ex hm1
  exact ⟨a1, b1, i1, hi1, e1, by rw [ea, eb]⟩
theorem s_sumOf {t : fcS} {q k d g a b w z a1 b1 : Nat} {P : PS q} (h : cvO P d g) (hp : rp t q) (h2' : fgi t k 2 = Ni q P) (h3' : fgi t k 3 = nI g) (hm : (a, b) ∈ cls q P g) (hm2 : (w, z) ∈ cls q P g) (hm1 : (a1, b1) ∈ cls q P g) (es : smC P g (pn q a, pn q b) (pn q w, pn q z) = (pn q a1, pn q b1)) {post : Int32 → fcS → Prop} (hh : post (nI (a1 * (q + 1) ^ 2 + b1)) t) : q_X0_sumOf t k (nI (a * (q + 1) ^ 2 + b)) (nI (w * (q + 1) ^ 2 + z)) post := by
  have hq := h.1
  have hl := isP_lo hq
  obtain ⟨-, hP, hP0, hd2, hg1, hg, hbz⟩ := h
  have hip : isPol P := ⟨_, hP⟩
  have hC1 := cls_C hq hip hm
  have hC2 := cls_C hq hip hm2
  obtain ⟨dU, s1, s2, s3, s4, ⟨m, im, s5⟩, -⟩ := sm_1 hq hP hP0 (by omega : d % 2 = 1) hbz hg hC1 hC2
  have et : ptop (smU (pn q a) (pn q b) (pn q w) (pn q z)) = dU := ptop_at ⟨s2, Or.inr (by rw [s3]; exact one_ne0 hq)⟩
  have b1' := cls_bd hq hg hm
  have b2' := cls_bd hq hg hm2
  have b3' := cls_bd hq hg hm1
  have h8 : (q + 1) ^ 8 < 2 ^ 30 := pw7 hq (by omega)
  have x2 : (q + 1) ^ 3 = (q + 1) ^ 2 * (q + 1) := Nat.pow_succ _ _
  have x3 : (q + 1) ^ 2 * 2 ≤ (q + 1) ^ 2 * (q + 1) := Nat.mul_le_mul_left _ (by omega)
  have x8 : (q + 1) ^ 3 ≤ (q + 1) ^ 8 := Nat.pow_le_pow_right (by omega) (by omega)
  refine s_uOf hq hp b1'.1 b1'.2 ?_
  refine s_vOf hq hp b1'.1 b1'.2 ?_
  refine s_uOf hq hp b2'.1 b2'.2 ?_
  refine s_vOf hq hp b2'.1 b2'.2 ?_
  rw [Ni_pn hq h8 (show a < (q + 1) ^ 8 by omega), Ni_pn hq h8 (show b < (q + 1) ^ 8 by omega), Ni_pn hq h8 (show w < (q + 1) ^ 8 by omega), Ni_pn hq h8 (show z < (q + 1) ^ 8 by omega)]
  have u3 : dl (pn q a) 3 := pn_dl (by omega)
  have w3 : dl (pn q w) 3 := pn_dl (by omega)
  have v2 : dl (pn q b) 2 := pn_dl b1'.2
  have z2 : dl (pn q z) 2 := pn_dl b2'.2
  have u0 : pn q a ≠ pz := by
    obtain ⟨du, -, -, k3, -⟩ := hC1
    exact mon_ne hq k3
  generalize pn q a = u at *
  generalize pn q b = v at *
  generalize pn q w = ww at *
  generalize pn q z = zz at *
  have P6 : dl P 6 := dl_mono hP (by omega)
  have B3 : dl (pgcd u ww) 3 := dvd_dl hq u3 (dl_mono w3 (by omega)) u0
  have B0 : pgcd u ww ≠ pz := gcd_ne hq ⟨_, u3⟩ (dl_mono w3 (by omega)) (Or.inl u0)
  have S2 : dl (padd v zz) 2 := dl_add v2 z2
  have D3 : dl (pgcd (pgcd u ww) (padd v zz)) 3 := dvd_dl hq B3 (dl_mono S2 (by omega)) B0
  have X3 : dl (pcof u ww) 3 := pcof_dl hq ⟨_, u3⟩ w3 (by omega) (by omega)
  have Y3 : dl (pcoy u ww) 3 := pcoy_dl hq u3 w3 (by omega) (by omega)
  have O2 : dl (pcof (pgcd u ww) (padd v zz)) 2 := pcof_dl hq ⟨_, B3⟩ S2 (by omega) (by omega)
  have C3 : dl (pcoy (pgcd u ww) (padd v zz)) 3 := pcoy_dl hq B3 (dl_mono S2 (by omega)) (by omega) (by omega)
  have y1 := coy_quo hq ⟨_, u3⟩ (b := ww) (dl_mono w3 (by omega)) u0
  have y2 := coy_quo hq ⟨_, B3⟩ (b := padd v zz) (dl_mono S2 (by omega)) B0
  have D0 : pgcd (pgcd u ww) (padd v zz) ≠ pz := gcd_ne hq ⟨_, B3⟩ (dl_mono S2 (by omega)) (Or.inl B0)
  refine s_gcd hq hp h8 (dl_mono u3 (by omega)) (dl_mono w3 (by omega)) ?_
  refine s_cof hq hp h8 (by omega) (dl_mono u3 (by omega)) (dl_mono w3 (by omega)) ?_
  refine s_pro (a := 3) (b := 3) (M := 8) hq hp (by omega) (by omega) h8 X3 u3 ?_
  have Xu : dl (pl_mul (pcof u ww) u) 5 := dl_mul X3 u3
  refine s_dif hq hp h8 (dl_mono B3 (by omega)) (dl_mono Xu (by omega)) ?_
  refine s_quo hq hp h8 (dl_sub (dl_mono B3 (by omega)) (dl_mono Xu (by omega))) (dl_mono w3 (by omega)) ?_
  rw [y1]
  refine s_sum hq hp h8 (dl_mono v2 (by omega)) (dl_mono z2 (by omega)) ?_
  refine s_gcd hq hp h8 (dl_mono B3 (by omega)) (dl_mono S2 (by omega)) ?_
  refine s_cof hq hp h8 (by omega) (dl_mono B3 (by omega)) (dl_mono S2 (by omega)) ?_
  refine s_pro (a := 2) (b := 3) (M := 8) hq hp (by omega) (by omega) h8 O2 B3 ?_
  have OB : dl (pl_mul (pcof (pgcd u ww) (padd v zz)) (pgcd u ww)) 4 := dl_mul O2 B3
  refine s_dif hq hp h8 (dl_mono D3 (by omega)) (dl_mono OB (by omega)) ?_
  refine s_quo hq hp h8 (dl_sub (dl_mono D3 (by omega)) (dl_mono OB (by omega))) (dl_mono S2 (by omega)) ?_
  rw [y2]
  refine s_pro (a := 3) (b := 3) (M := 8) hq hp (by omega) (by omega) h8 X3 u3 ?_
  refine s_pro (a := 5) (b := 2) (M := 8) hq hp (by omega) (by omega) h8 Xu z2 ?_
  have Xuz : dl (pl_mul (pl_mul (pcof u ww) u) zz) 6 := dl_mul Xu z2
  refine s_pro (a := 3) (b := 3) (M := 8) hq hp (by omega) (by omega) h8 Y3 w3 ?_
  have Yw : dl (pl_mul (pcoy u ww) ww) 5 := dl_mul Y3 w3
  refine s_pro (a := 5) (b := 2) (M := 8) hq hp (by omega) (by omega) h8 Yw v2 ?_
  have Ywv : dl (pl_mul (pl_mul (pcoy u ww) ww) v) 6 := dl_mul Yw v2
  refine s_sum hq hp h8 (dl_mono Xuz (by omega)) (dl_mono Ywv (by omega)) ?_
  have Cr : dl (padd (pl_mul (pl_mul (pcof u ww) u) zz) (pl_mul (pl_mul (pcoy u ww) ww) v)) 6 := dl_add Xuz Ywv
  refine s_pro (a := 2) (b := 2) (M := 8) hq hp (by omega) (by omega) h8 v2 z2 ?_
  have vz : dl (pl_mul v zz) 3 := dl_mul v2 z2
  rw [h2']
  refine s_sum hq hp h8 (dl_mono vz (by omega)) (dl_mono P6 (by omega)) ?_
  have Sq : dl (padd (pl_mul v zz) P) 6 := dl_add (dl_mono vz (by omega)) P6
  refine s_pro (a := 2) (b := 6) (M := 8) hq hp (by omega) (by omega) h8 O2 Cr ?_
  have OC : dl (pl_mul (pcof (pgcd u ww) (padd v zz)) (padd (pl_mul (pl_mul (pcof u ww) u) zz) (pl_mul (pl_mul (pcoy u ww) ww) v))) 8 := dl_mono (dl_mul O2 Cr) (by omega)
  refine s_pro (a := 3) (b := 6) (M := 8) hq hp (by omega) (by omega) h8 C3 Sq ?_
  have CS : dl (pl_mul (pcoy (pgcd u ww) (padd v zz)) (padd (pl_mul v zz) P)) 8 := dl_mul C3 Sq
  refine s_sum hq hp h8 OC CS ?_
  have W8 := dl_add OC CS
  refine s_pro (a := 3) (b := 3) (M := 8) hq hp (by omega) (by omega) h8 u3 w3 ?_
  refine s_pro (a := 3) (b := 3) (M := 8) hq hp (by omega) (by omega) h8 D3 D3 ?_
  refine s_quo hq hp h8 (dl_mono (dl_mul u3 w3) (by omega)) (dl_mono (dl_mul D3 D3) (by omega)) ?_
  refine s_quo hq hp h8 W8 (dl_mono D3 (by omega)) ?_
  have V0 : dl (pquo (smW P u v ww zz) (smd u v ww zz)) 8 := by
    obtain ⟨nd, d1, d2⟩ := hd_top D3 D0
    exact dl_mono (pqr_is hq W8 d1 d2).2.1 (by omega)
  show q_X3_rest t (Ni q (pquo (smW P u v ww zz) (smd u v ww zz))) (Ni q (smU u v ww zz)) _
  refine s_rest hq hp h8 V0 (dl_mono s2 (by omega)) ?_
  show q_X0_reduced t k (Ni q (smU u v ww zz)) (Ni q (smV P u v ww zz)) _
  unfold smC at es
  rw [et] at es
  refine s_red hq hp h2' h3' hP hP0 hd2 hg1 hg s2 s3 s4 im s5 s1 ?_ ?_ b3'.1 b3'.2 hh
  · by_cases c : dU ≤ g
    · rw [if_pos c] at es ⊢
      exact congrArg Prod.fst es
    · rw [if_neg c] at es ⊢
      exact congrArg Prod.fst es
  · by_cases c : dU ≤ g
    · rw [if_pos c] at es ⊢
      exact congrArg Prod.snd es
    · rw [if_neg c] at es ⊢
      exact congrArg Prod.snd es
