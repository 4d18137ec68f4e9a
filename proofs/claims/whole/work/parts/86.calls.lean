/-! curve: the call -/
theorem no_ix {x : Int32} {m : Nat} (hm : m < 2 ^ 31) (h : x.toInt < 0 ∨ (m : Int) ≤ x.toInt) : ∀ j, j < m → x ≠ nI j := fun j hj e => by
  rw [e, nI_toInt (by omega)] at h; omega
theorem o32_0 : (0 : Int32).toInt = 0 := by decide
theorem o32_1 : (1 : Int32).toInt = 1 := by decide
theorem o32_2 : (2 : Int32).toInt = 2 := by decide
theorem c_curve {q C : Nat} {cv : Nat → Nat × Nat × Nat} {K : Int32} {T : Int64} {t : fcS} (hS : ST q C cv K T t) {x : Int32} {post : Option Nat → fcS → Prop} (h0 : (∀ c, c < C → x ≠ nI c) → post none t) (h1 : ∀ c, c < C → x = nI c → fisC (21 + 4 * c) → post (some (21 + 4 * c)) t) : q_X4_curveAt t x post := by
  have hC := hS.1.2.1
  unfold q_X4_curveAt
  rw [hS.2.1.1.2.2.1]
  rcases ix_cases x (m := C) (by omega) with w | ⟨c, hc, rfl⟩
  · have hno := no_ix (by omega) w
    refine ⟨fun _ => h0 hno, fun c1 => ⟨fun _ => h0 hno, fun c2 => ?_⟩⟩
    exfalso
    rcases w with w | w
    · exact c1 (Int32.lt_iff_toInt_lt.mpr (by rw [o32_0]; exact w))
    · exact c2 (Int32.le_iff_toInt_le.mpr (by rw [nI_toInt (by omega)]; exact w))
  · refine ⟨fun z => absurd z (nI_pos (by omega)), fun _ => ⟨fun z => absurd z (nI_ge hc (by omega)), fun _ => ⟨fun _ => ⟨vp_in_nI (by omega) (by omega), fun i1 e1 => ?_⟩, fun z => absurd (show nI c < nI 8 from nI_lt (by omega) (by omega)) z⟩⟩⟩
    rw [nI_clamp (by omega)] at e1
    subst e1
    exact h1 c hc rfl ⟨by omega, by omega, by omega⟩
theorem m_isCurve {t : fcS} {C : Nat} (h6 : fgi t 53 6 = nI C) (hC : C ≤ 8) {x : Int32} {post : Int32 → fcS → Prop} (h0 : (∀ c, c < C → x ≠ nI c) → post 0 t) (h1 : ∀ c, c < C → x = nI c → post 1 t) : q_X5_isCurve t x post := by
  unfold q_X5_isCurve
  rw [h6]
  have e1 : (Int32.toInt64 (nI C - 1)).toInt = (C : Int) - 1 := by
    rw [ti_i]
    have a1 : (nI C).toInt = (C : Int) := nI_toInt (by omega)
    rw [fb_subI (by rw [a1, o32_1]; omega) (by rw [a1, o32_1]; omega), a1, o32_1]
  refine m_in (fun c => ⟨Or.inl rfl, h0 ?_⟩) (fun c1 c2 => ⟨Or.inr rfl, ?_⟩)
  · rw [ti_i, ti_0, e1] at c
    exact no_ix (by omega) (by omega)
  · rw [ti_i] at c1 c2
    rw [ti_0] at c1
    rw [e1] at c2
    rcases ix_cases x (m := C) (by omega) with w | ⟨c, hc, e⟩
    · omega
    · exact h1 c hc e
theorem div_dl {q m : Nat} (hq : isP q) {a s g : PS q} (ha : dl a m) (ha0 : a ≠ pz) (is : isPol s) (ig : isPol g) (e : a = pl_mul s g) : dl g m := by
  obtain ⟨k, hk⟩ := ig
  obtain ⟨l, hl⟩ := is
  have g0 : g ≠ pz := fun z => ha0 (by rw [e, z, pm_zr])
  have s0 : s ≠ pz := fun z => ha0 (by rw [e, z, pm_z])
  obtain ⟨dg, g1, g2⟩ := hd_top hk g0
  obtain ⟨ds, s1, s2⟩ := hd_top hl s0
  rcases Nat.lt_or_ge dg m with w | w
  · exact dl_mono g1 (by omega)
  · exfalso
    have htop := mul_top s1 g1
    rw [← e, ha (ds + dg) (by omega)] at htop
    rcases fin_dom hq htop.symm with z | z
    · exact s2 z
    · exact g2 z
theorem knot_dl {q f : Nat} (hq : isP q) (h7 : f < (q + 1) ^ 7) (h0 : 0 < f) : dl (pgcd (pn q f) (pder (pn q f))) 7 := by
  obtain ⟨⟨s, is, es⟩, -, -, -, -, n, hn, -⟩ := gcd_is hq ⟨7, pn_dl h7⟩ (dl_mono (der_dl (pn_dl h7)) (by omega)) (Or.inl (pn_ne0 h7 h0))
  exact div_dl hq (pn_dl h7) (pn_ne0 h7 h0) is ⟨_, hn⟩ es
theorem knot_hd {q f : Nat} (hq : isP q) (h7 : f < (q + 1) ^ 7) (h0 : 0 < f) : ∃ n, hd (pgcd (pn q f) (pder (pn q f))) n ∧ n < 7 := by
  obtain ⟨n, h, -⟩ := hd_ex (knot_dl hq h7 h0)
  exact ⟨n, h, by have := hd_lt h (knot_dl hq h7 h0); omega⟩
theorem s_knot7 {t : fcS} {q f : Nat} (hq : isP q) (hp : rp t q) (h7 : f < (q + 1) ^ 7) {post : Int32 → fcS → Prop} (h : post (Ni q (pgcd (pn q f) (pder (pn q f)))) t) : q_X3_knotOf t (nI f) post := by
  rw [Ni_pn hq (pw7 hq (by omega) : (q + 1) ^ 7 < 2 ^ 30) h7]
  exact s_knot hq hp (pw7 hq (by omega)) (pn_dl h7) h
theorem s_curve {t : fcS} {q C n : Nat} {cv : Nat → Nat × Nat × Nat} {K : Int32} {T : Int64} {kd f tt : Nat} (hS : ST q C cv K T t) (h1 : kd ≤ 2) (h3 : (q + 1) ^ 3 ≤ f) (h7 : f < (q + 1) ^ 7) (ht : tt ≤ q) (ht0 : kd ≠ 2 → tt = 0) {a2 : Int32} (ha2 : kd = 2 → a2 = nI tt) (hn : hd (pgcd (pn q f) (pder (pn q f))) n) {post : Int32 → fcS → Prop}
    (p1 : n = 0 → C < 8 → ∀ t2, sameR t t2 → IC q (C + 1) (cvs cv C (kd, f, tt)) (-9) T t2 → post (nI C) t2)
    (p2 : n = 0 → C = 8 → ∀ t2, sameR t t2 → IC q C cv (-9) T t2 → post (-3) t2)
    (p3 : n ≠ 0 → ∀ t2, sameR t t2 → IC q C cv (Ni q (pgcd (pn q f) (pder (pn q f)))) T t2 → post (-2) t2) : q_X4_curve_41 post (nI kd) (nI f) a2 t := by
  have hq := hS.1.1
  have hl := isP_lo hq
  have hC := hS.1.2.1
  have hI := hS.2.1
  have hp := hI.1.1
  have hf0 : 0 < f := by have : 0 < (q + 1) ^ 3 := Nat.pow_pos (by omega); omega
  have hgd := knot_dl hq h7 hf0
  unfold q_X4_curve_41
  refine s_knot7 hq hp h7 ?_
  refine s_degS hq hp (pw7 hq (by omega) : (q + 1) ^ 7 < 2 ^ 30) hgd hn ⟨fun c t7 e7 => ?_, fun c t11 e11 => ?_⟩
  · have hn0 : n = 0 := by
      rcases Nat.eq_zero_or_pos n with w | w
      · exact w
      · exact absurd c (nI_nle w (by have := hd_lt hn hgd; omega))
    have e6 : fgi t7 0 6 = nI C := by subst e7; rw [gi_fsi, if_neg (by omega)]; exact hI.1.2.2.1
    have e7' : fgi t7 0 7 = nI (dns q) := by subst e7; rw [gi_fsi, if_neg (by omega)]; exact hI.1.2.2.2.1
    have k8 : fgi t7 0 8 = -9 := by subst e7; exact gi_same _ _ _ _
    have hI7 : IC q C cv (-9) T t7 := IC_kn hI hC e7
    have sR7 : sameR t t7 := by subst e7; exact fun k hk => ⟨fun j => by rw [gi_fsi, if_neg (by omega)], rfl, fun _ => rfl, rfl⟩
    rw [e6]
    refine ⟨fun c8 => ?_, fun c8 => ?_⟩
    · have hC8 : C < 8 := (nI_ltI (b := 8) (by omega) (by omega)).mp c8
      refine ⟨vp_in_nI hC8 (by omega), fun i8 e8 => ?_⟩
      rw [nI_clamp (by omega)] at e8
      subst e8
      rw [e7']
      refine s_cbegin (x := (kd, f, tt)) hq ⟨h1, h3, h7, ht, ht0, hn0 ▸ hn⟩ hI7.1.1 (by omega) ha2 (fun t9 e9 hD h3' h4' t10 e10 => ?_)
      have g6 : fgi t9 0 6 = nI C := by rw [e9.1 0 6 (by omega) (by omega)]; exact e6
      rw [g6] at e10
      have g10 : fgi t10 0 6 = nI (C + 1) := by subst e10; rw [gi_same, nI_1]
      have ei : ∀ a j, ¬ (a = 0 ∧ j = 6) → fgi t10 a j = fgi t9 a j := fun a j h => by subst e10; rw [gi_fsi, if_neg h]
      have e2 : t10.2 = t9.2 := by subst e10; rfl
      rw [g10, show (1 : Int32) = nI 1 from rfl, pk_sub (by omega), Nat.add_sub_cancel]
      refine p1 hn0 hC8 t10 ?_ (IC_new hI7 hC8 (fun a j x1 x2 x3 => ?_) (e2.trans e9.2) g10 ?_ ?_ ?_ ?_)
      · refine sameR_tr sR7 (fun k hk => ⟨fun j => ?_, ?_, fun j => ?_, ?_⟩)
        · rw [ei k j (by omega)]; exact e9.1 k j (by omega) (by omega)
        · show t10.2.1 k = t7.2.1 k
          rw [e2, e9.2]
        · show t10.2.2.1 k j = t7.2.2.1 k j
          rw [e2, e9.2]
        · show t10.2.2.2 k = t7.2.2.2 k
          rw [e2, e9.2]
      · rw [ei a j (by omega)]; exact e9.1 a j x1 x2
      · rw [ei 0 8 (by omega), e9.1 0 8 (by omega) (by omega)]; exact k8
      · obtain ⟨d1, d2, d3, d4, d5, d6, d7, d8⟩ := hD
        exact ⟨(ei _ _ (by omega)).trans d1, (ei _ _ (by omega)).trans d2, (ei _ _ (by omega)).trans d3, (ei _ _ (by omega)).trans d4, (ei _ _ (by omega)).trans d5, (ei _ _ (by omega)).trans d6, (ei _ _ (by omega)).trans d7, (ei _ _ (by omega)).trans d8⟩
      · exact (ei _ _ (by omega)).trans h3'
      · exact (ei _ _ (by omega)).trans h4'
    · have hC8 : C = 8 := by
        rcases Nat.lt_or_ge C 8 with w | w
        · exact absurd (show nI C < nI 8 from nI_lt w (by omega)) c8
        · omega
      exact p2 hn0 hC8 t7 sR7 hI7
  · have hn0 : n ≠ 0 := fun z => c (by rw [z]; decide)
    refine p3 hn0 t11 ?_ (IC_kn hI hC e11)
    subst e11
    exact fun k hk => ⟨fun j => by rw [gi_fsi, if_neg (by omega)], rfl, fun _ => rfl, rfl⟩
theorem IR_0 {t : fcS} {q C : Nat} {cv : Nat → Nat × Nat × Nat} {K : Int32} {T : Int64} (h : IR q C cv K T t) : IR q C cv K T (fsi t 53 0 0) :=
  IR_G h (eqG_fsi t C (Or.inl rfl) 0) (by rw [gi_fsi, if_neg (by omega)]; exact h.2.2.2.2.2.1) (by rw [gi_fsi, if_neg (by omega)]; exact h.2.2.2.2.2.2.1) (fun _ _ => rfl) (Nat.le_refl _) (fun c a b => by omega)
theorem m_curve_in {t : fcS} {q kd f tt : Nat} (hq : isP q) (hp : mp t q) (h1 : kd ≤ 2) (h3 : (q + 1) ^ 3 ≤ f) (h7 : f < (q + 1) ^ 7) (ht : tt ≤ q) {a2 : Int32} (ha2 : kd = 2 → a2 = nI tt) {post : Int32 → fcS → Prop} (h : q_X5_curve_48 post (nI kd) (nI f) a2 (fsi t 53 0 0)) : q_X5_curve t (nI kd) (nI f) a2 post := by
  intro t1 e1
  subst e1
  have hl := isP_lo hq
  have hp1 : mp (fsi t 53 0 0) q := by unfold mp; rw [gi_fsi, if_neg (by omega)]; exact hp
  have o2 : (2 : Int64).toInt = 2 := by decide
  refine m_in (fun c => ?_) (fun _ _ => ⟨fun z => absurd z i0, fun _ => ?_⟩)
  · rw [ti_i, ti_0, o2, nI_toInt (by omega)] at c; omega
  · refine m_shaped hq hp1 (fun hno => absurd rfl (hno f h3 h7)) (fun _ _ _ _ => ⟨fun z => absurd z i0, fun _ => ⟨fun _ => h, fun c2 => ?_⟩⟩)
    have hk2 : kd = 2 := (nI_eq (b := 2) (by omega) (by omega)).mp c2
    have ea := ha2 hk2
    subst ea
    rw [show fgi (fsi t 53 0 0) 53 1 = nI (q + 1) from hp1, show (1 : Int32) = nI 1 from rfl, pk_sub (by omega), Nat.add_sub_cancel]
    refine m_in (fun c => ?_) (fun _ _ => ⟨fun _ => h, fun z => absurd z i0⟩)
    rw [ti_i, ti_i, ti_0, nI_toInt (by omega), nI_toInt (by omega)] at c; omega
theorem ok_12 : fOK_12 Inv := by
  intro t a0 a1 a2 ⟨q, C, cv, K, T, hS⟩
  have hq := hS.1.1
  have hl := isP_lo hq
  have hC := hS.1.2.1
  have h0 := ST_0 hS
  have hp := hS.2.1.1.1
  have hI := ST_Inv h0
  have o2 : (2 : Int64).toInt = 2 := by decide
  rcases ix_cases a0 (m := 3) (by omega) with w | ⟨kd, hk, rfl⟩
  · have rb : q_X5_curve t a0 a1 a2 (fun r2 t2 => (-1 : Int32) = r2 ∧ Inv t2) := fun t1 e1 => by
      subst e1
      refine m_in (fun _ => ⟨fun _ => ⟨rfl, hI⟩, fun z => absurd rfl z⟩) (fun c1 c2 => ?_)
      rw [ti_i] at c1 c2
      rw [ti_0] at c1
      rw [o2] at c2
      omega
    refine ⟨fun _ => rb, fun c1 => ⟨fun _ => rb, fun c2 => ?_⟩⟩
    exfalso
    rw [Int32.lt_iff_toInt_lt, o32_0] at c1
    rw [Int32.lt_iff_toInt_lt, o32_2] at c2
    omega
  · have r1 : ∀ post : Int32 → fcS → Prop, q_X5_isShaped (fsi t 53 0 0) a1 (fun r5 t4 => (r5 = 0 → post (-1) t4) ∧ (¬ r5 = 0 → ((¬ nI kd = 2 → q_X5_curve_48 post (nI kd) a1 a2 t4) ∧ (nI kd = 2 → q_X5_in t4 (Int32.toInt64 a2) 0 (Int32.toInt64 (fgi t4 53 1 - 1)) (fun r29 t28 => (¬ r29 = 0 → q_X5_curve_48 post (nI kd) a1 a2 t28) ∧ (r29 = 0 → post (-1) t28)))))) → q_X5_curve t (nI kd) a1 a2 post := fun post h t1 e1 => by
      subst e1
      refine m_in (fun c => ?_) (fun _ _ => ⟨fun z => absurd z i0, fun _ => h⟩)
      rw [ti_i, ti_0, o2, nI_toInt (by omega)] at c; omega
    refine ⟨fun z => absurd z (nI_pos (by omega)), fun _ => ⟨fun z => absurd z (nI_nlt (a := 2) (b := kd) (by omega) (by omega)), fun _ => ?_⟩⟩
    refine s_isCP hq hp (fun hno => ⟨fun z => absurd rfl z, fun _ => r1 _ (m_shaped hq h0.2.2.1.1 (fun _ => ⟨fun _ => ⟨rfl, hI⟩, fun z => absurd rfl z⟩) (fun f h3 h7 e => absurd e (hno f h3 h7)))⟩) (fun f h3 h7 e => ⟨fun _ => ?_, fun z => absurd z i0⟩)
    subst e
    have hf0 : 0 < f := by have : 0 < (q + 1) ^ 3 := Nat.pow_pos (by omega); omega
    obtain ⟨n, hn, -⟩ := knot_hd hq h7 hf0
    have main : ∀ tt, tt ≤ q → (kd ≠ 2 → tt = 0) → (kd = 2 → a2 = nI tt) → q_X4_curve_41 (fun (r : Int32) (t1 : fcS) => q_X5_curve t1 (nI kd) (nI f) a2 (fun (r2 : Int32) (t2 : fcS) => r = r2 ∧ Inv t2)) (nI kd) (nI f) a2 t := fun tt ht ht0 ha2 => by
      refine s_curve hS (by omega) h3 h7 ht ht0 ha2 hn (fun z1 z2 t2 e2 hI2 => ?_) (fun z1 z2 t2 e2 hI2 => ?_) (fun z1 t2 e2 hI2 => ?_)
      · have hR2 := IR_0 (IR_same hS.2.2 e2)
        refine m_curve_in hq (IR_same hS.2.2 e2).1.1 (by omega) h3 h7 ht ha2 (m_curve hq hC hR2 (by omega) h3 h7 ht ht0 ha2 hn (fun _ _ t3 e3 hR3 => ⟨rfl, q, C + 1, cvs cv C (kd, f, tt), -9, T, ⟨hq, by omega, fun j hj => ?_⟩, IC_same hI2 (by omega) (sameC_tr (sameC_fsi t2 0 0) e3), hR3⟩) (fun _ z => absurd z (by omega)) (fun z => absurd z1 z))
        unfold cvs
        by_cases cj : j = C
        · rw [if_pos cj]
          exact ⟨by show kd ≤ 2; omega, h3, h7, ht, ht0, z1 ▸ hn⟩
        · rw [if_neg cj]; exact hS.1.2.2 j (by omega)
      · have hR2 := IR_0 (IR_same hS.2.2 e2)
        exact m_curve_in hq (IR_same hS.2.2 e2).1.1 (by omega) h3 h7 ht ha2 (m_curve hq hC hR2 (by omega) h3 h7 ht ht0 ha2 hn (fun _ z => absurd z (by omega)) (fun _ _ t3 e3 hR3 => ⟨rfl, q, C, cv, -9, T, hS.1, IC_same hI2 hC (sameC_tr (sameC_fsi t2 0 0) e3), hR3⟩) (fun z => absurd z1 z))
      · have hR2 := IR_0 (IR_same hS.2.2 e2)
        exact m_curve_in hq (IR_same hS.2.2 e2).1.1 (by omega) h3 h7 ht ha2 (m_curve hq hC hR2 (by omega) h3 h7 ht ht0 ha2 hn (fun z => absurd z z1) (fun z => absurd z z1) (fun _ t3 e3 hR3 => ⟨rfl, q, C, cv, _, T, hS.1, IC_same hI2 hC (sameC_tr (sameC_fsi t2 0 0) e3), hR3⟩))
    refine ⟨fun c2 => main 0 (by omega) (fun _ => rfl) (fun z => absurd (by rw [z]; rfl) c2), fun c2 => ?_⟩
    have hk2 : kd = 2 := (nI_eq (b := 2) (by omega) (by omega)).mp c2
    have rp1 : fgi t 1 0 = nI (q + 1) := hp
    have rmp : fgi (fsi t 53 0 0) 53 1 = nI (q + 1) := h0.2.2.1.1
    rw [rp1]
    rcases ix_cases a2 (m := q + 1) (by omega) with w | ⟨tt, htt, e⟩
    · have rb2 : q_X5_curve t (nI kd) (nI f) a2 (fun r2 t2 => (-1 : Int32) = r2 ∧ Inv t2) := by
        refine r1 _ (m_shaped hq h0.2.2.1.1 (fun hno => absurd rfl (hno f h3 h7)) (fun _ _ _ _ => ⟨fun z => absurd z i0, fun _ => ⟨fun z => absurd c2 z, fun _ => ?_⟩⟩))
        rw [rmp, show (1 : Int32) = nI 1 from rfl, pk_sub (by omega), Nat.add_sub_cancel]
        refine m_in (fun c => ⟨fun z => absurd rfl z, fun _ => ⟨rfl, hI⟩⟩) (fun c1 c2 => ?_)
        rw [ti_i] at c1
        rw [ti_i, ti_i, nI_toInt (by omega)] at c2
        rw [ti_0] at c1
        omega
      refine ⟨fun _ => rb2, fun c1 => ⟨fun c3 => ?_, fun _ => rb2⟩⟩
      exfalso
      rw [Int32.lt_iff_toInt_lt, o32_0] at c1
      rw [Int32.lt_iff_toInt_lt, nI_toInt (by omega)] at c3
      omega
    · refine ⟨fun z => absurd z (by rw [e]; exact nI_pos (by omega)), fun _ => ⟨fun _ => main tt (by omega) (fun z => absurd hk2 z) (fun _ => e), fun z => absurd (by rw [e]; exact nI_lt htt (by omega)) z⟩⟩
