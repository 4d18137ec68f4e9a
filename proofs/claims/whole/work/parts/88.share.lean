/-! THE SHARE -/
theorem ST_share {q C c : Nat} {cv : Nat → Nat × Nat × Nat} {K : Int32} {T : Int64} {t t2 : fcS} (h : ST q C cv K T t) (hc : c < C) (e1 : ∀ a j, ¬ (a = 21 + 4 * c ∧ j = 3) → fgi t2 a j = fgi t a j) (e2 : ∀ a, a ≠ 21 + 4 * c + 1 → fga t2 a = fga t a) (e3 : t2.2.2 = t.2.2) (hx : ∀ i, i < 5 → fga t2 (21 + 4 * c + 1) i = shr q (cvP q (cv c)) (cvd q (cv c)) (cvg q (cv c)) i) : ST q C cv K T t2 := by
  have hC := h.1.2.1
  refine ⟨h.1, ⟨?_, ?_, ?_⟩, IR_same h.2.2 (fun k hk => ⟨fun j => e1 k j (by omega), e2 k (by omega), fun j => by unfold fgj; rw [e3], by unfold fgl; rw [e3]⟩)⟩
  · have h1 := h.2.1.1
    unfold CB rp at *
    rw [e1 0 5 (by omega), e1 0 6 (by omega), e1 0 7 (by omega), e1 0 8 (by omega), e1 1 0 (by omega), show fgj t2 0 9 = fgj t 0 9 by unfold fgj; rw [e3]]
    exact h1
  · intro i hi
    have := h.2.1.2.1 i hi
    refine ⟨by rw [e1 _ _ (by omega)]; exact this.1, fun q2 hf he => ?_⟩
    rw [e1 _ _ (by omega)] at he
    obtain ⟨g, hg⟩ := this.2 q2 hf he
    exact ⟨g, tab_gi hg (fun j => e1 _ j (by omega)) (e2 _ (by omega)) (e2 _ (by omega))⟩
  · intro j hj
    have := h.2.1.2.2 j hj
    refine ⟨?_, ?_, ?_⟩
    · have hD := this.1
      unfold CD at hD ⊢
      rw [e1 (21 + 4 * j) 4 (by omega), e1 (21 + 4 * j) 5 (by omega), e1 (21 + 4 * j) 6 (by omega), e1 (21 + 4 * j) 7 (by omega), e1 (21 + 4 * j) 8 (by omega), e1 (21 + 4 * j) 9 (by omega), e1 (21 + 4 * j + 2) 2 (by omega), e1 (21 + 4 * j + 2) 3 (by omega)]
      exact hD
    · by_cases cj : j = c
      · rw [cj]; exact Or.inr hx
      · have hD := this.2.1
        unfold CS at hD ⊢
        rw [e1 (21 + 4 * j) 3 (by omega), e2 (21 + 4 * j + 1) (by omega)]
        exact hD
    · have hD := this.2.2
      unfold CL at hD ⊢
      rw [e1 (21 + 4 * j + 2) 4 (by omega), e2 (21 + 4 * j + 3) (by omega)]
      exact hD
theorem fl_2 {q : Nat} (hq : isP q) : fl q 2 := ⟨hq, by omega, (nfd_ok hq).2.1⟩
theorem s_mk {q C c g1 g2 : Nat} {cv : Nat → Nat × Nat × Nat} {K : Int32} {T : Int64} {t : fcS} (hS : ST q C cv K T t) (hc : c < C) (h1 : tb t q 1 6 g1) (h2 : tb t q 2 9 g2) {post : fcS → Prop} (hh : ∀ t2, ST q C cv K T t2 → (∀ i, i < 5 → fga t2 (21 + 4 * c + 1) i = shr q (cvP q (cv c)) (cvd q (cv c)) (cvg q (cv c)) i) → post t2) : q_X1_makeShare t (21 + 4 * c) 6 9 post := by
  have hq := hS.1.1
  have hC := hS.1.2.1
  have hV := hS.1.2.2 c hc
  obtain ⟨-, -, -, -, hP, hP7, hP0, -, -, g1', g2'⟩ := cv_is hq hV
  obtain ⟨⟨-, -, -, -, d5, d6, -, -⟩, -, -⟩ := hS.2.1.2.2 c hc
  have hp : fgi t 1 0 = nI (q + 1) := hS.2.1.1.1
  intro x1 e1
  rw [hp] at e1
  subst e1
  rw [d6]
  refine s_pts (fl_1 hq) hS.2.1.1.1 h1 hP7 hP (fun x4 e4 => ?_)
  refine s_fill (by omega) (fun t5 e5 hz => ?_)
  refine s_put (i := 0) (by omega) (by omega) (s_put (i := 1) (by omega) (by omega) ?_)
  generalize et7 : fsa (fsa t5 (21 + 4 * c + 1) 0 1) (21 + 4 * c + 1) 1 x4 = t7
  have e7 : eqR t t7 (21 + 4 * c + 1) := by subst et7; exact eqR_fsa (eqR_fsa e5 _ _) _ _
  have gi7 := eqR_gi e7
  have r7 : ∀ i, i < 5 → fga t7 (21 + 4 * c + 1) i = if i = 1 then x4 else if i = 0 then 1 else 0 := fun i hi => by
    subst et7
    rw [ga_fsaG, ga_fsaG, hz i hi]
  have fin : ∀ t8, eqR t t8 (21 + 4 * c + 1) → (∀ i, i < 5 → fga t8 (21 + 4 * c + 1) i = shr q (cvP q (cv c)) (cvd q (cv c)) (cvg q (cv c)) i) → post (fsi t8 (21 + 4 * c) 3 1) := fun t8 e8 hr => hh _ (ST_share hS hc (fun a j h => by rw [gi_fsi, if_neg h]; exact eqR_gi e8 a j) (fun a ha => e8.2.2 a ha) e8.2.1 hr) hr
  have g8 : ∀ t8, eqR t t8 (21 + 4 * c + 1) → fgi t8 (21 + 4 * c) 8 = nI (cvg q (cv c)) := fun t8 e8 => (eqR_gi e8 _ _).trans d5
  rw [g8 t7 e7]
  refine ⟨fun cg => ?_, fun cg => ?_⟩
  · have hg : cvg q (cv c) = 1 := by
      have : cvg q (cv c) ≠ 2 := fun z => cg (by rw [z]; rfl)
      omega
    refine ⟨2, ?_⟩
    unfold q_X1_makeShare_90
    rw [g8 t7 e7, hg]
    refine ⟨fun z => absurd z (by decide), fun _ => ?_⟩
    rw [show nI 1 - 0 = nI 1 by decide]
    refine s_place (eqR_rp e7 hS.2.1.1.1) (by have := pw7 (m := 1) hq (by omega); exact this) (by omega) ?_
    refine s_at (i := 0) (by omega) (by omega) ?_
    rw [show 2 * nI 1 - 0 = nI 2 by decide, r7 0 (by omega)]
    refine s_put (i := 2) (by omega) (by omega) (fun x14 e14 => ?_)
    have e9 := eqR_fsa e7 2 (nI ((q + 1) ^ 1) * (if (0 : Nat) = 1 then x4 else if (0 : Nat) = 0 then 1 else 0))
    unfold q_X1_makeShare_90
    rw [g8 _ e9, hg, e14]
    refine ⟨fun _ t8 e8 => ?_, fun z => absurd (by decide) z⟩
    subst e8
    refine fin _ e9 (fun i hi => ?_)
    rw [ga_fsaG, r7 i hi, hg]
    unfold shr
    match i, hi with
    | 0, _ => rfl
    | 1, _ => exact e4
    | 2, _ => show nI ((q + 1) ^ 1) * 1 = nI (q + 1); rw [Int32.mul_one, Nat.pow_one]
    | 3, _ => rfl
    | 4, _ => rfl
  · have hg : cvg q (cv c) = 2 := (nI_eq (b := 2) (by omega) (by omega)).mp cg
    rw [show fgi t7 (21 + 4 * c) 9 = Ni q (cvP q (cv c)) from (gi7 _ _).trans d6]
    have tb7 : tb t7 q 2 9 g2 := by
      unfold tb at *
      rw [gi7, gi7, gi7, e7.2.2 10 (by omega), e7.2.2 11 (by omega)]
      exact h2
    refine s_pts (fl_2 hq) (eqR_rp e7 hS.2.1.1.1) tb7 hP7 hP ⟨by decide, ?_⟩
    refine s_put (i := 2) (by omega) (by omega) ⟨3, ?_⟩
    generalize ev2 : (cnt q 2 (cvP q (cv c)) (cvd q (cv c)) - nI (q + 1) * nI (q + 1) - 1 + x4 * x4) / 2 = v2
    have e9 := eqR_fsa e7 2 v2
    have r9 : ∀ i, i < 5 → fga (fsa t7 (21 + 4 * c + 1) 2 v2) (21 + 4 * c + 1) i = if i = 2 then v2 else if i = 1 then x4 else if i = 0 then 1 else 0 := fun i hi => by rw [ga_fsaG, r7 i hi]
    unfold q_X1_makeShare_90
    rw [g8 _ e9, hg]
    refine ⟨fun z => absurd z (by decide), fun _ => ?_⟩
    rw [show nI 2 - 0 = nI 2 by decide]
    refine s_place (eqR_rp e9 hS.2.1.1.1) (by have := pw7 (m := 2) hq (by omega); exact this) (by omega) ?_
    refine s_at (i := 0) (by omega) (by omega) ?_
    rw [show 2 * nI 2 - 0 = nI 4 by decide, r9 0 (by omega)]
    refine s_put (i := 4) (by omega) (by omega) (fun x14 e14 => ?_)
    generalize ev4 : nI ((q + 1) ^ 2) * (if (0 : Nat) = 2 then v2 else if (0 : Nat) = 1 then x4 else if (0 : Nat) = 0 then 1 else 0) = v4
    have e10 := eqR_fsa e9 4 v4
    have r10 : ∀ i, i < 5 → fga (fsa (fsa t7 (21 + 4 * c + 1) 2 v2) (21 + 4 * c + 1) 4 v4) (21 + 4 * c + 1) i = if i = 4 then v4 else if i = 2 then v2 else if i = 1 then x4 else if i = 0 then 1 else 0 := fun i hi => by rw [ga_fsaG, r9 i hi]
    unfold q_X1_makeShare_90
    rw [g8 _ e10, hg, e14]
    refine ⟨fun z => absurd z (by decide), fun _ => ?_⟩
    rw [show nI 2 - (0 + 1) = nI 1 by decide, show (0 : Int32) + 1 = nI 1 by decide]
    refine s_place (eqR_rp e10 hS.2.1.1.1) (by have := pw7 (m := 1) hq (by omega); exact this) (by omega) ?_
    refine s_at (i := 1) (by omega) (by omega) ?_
    rw [show 2 * nI 2 - nI 1 = nI 3 by decide, r10 1 (by omega)]
    refine s_put (i := 3) (by omega) (by omega) (fun x15 e15 => ?_)
    generalize ev3 : nI ((q + 1) ^ 1) * (if (1 : Nat) = 4 then v4 else if (1 : Nat) = 2 then v2 else if (1 : Nat) = 1 then x4 else if (1 : Nat) = 0 then 1 else 0) = v3
    have e11 := eqR_fsa e10 3 v3
    unfold q_X1_makeShare_90
    rw [g8 _ e11, hg, e15]
    refine ⟨fun _ t8 e8 => ?_, fun z => absurd (by decide) z⟩
    subst e8
    refine fin _ e11 (fun i hi => ?_)
    rw [ga_fsaG, r10 i hi, hg]
    unfold shr
    match i, hi with
    | 0, _ => rfl
    | 1, _ => exact e4
    | 2, _ => show v2 = _; rw [← ev2, e4]; rfl
    | 3, _ => show v3 = _; rw [← ev3, e4, Nat.pow_one]; rfl
    | 4, _ => show v4 = _; rw [← ev4]; exact Int32.mul_one _
theorem s_shareOf {q C c : Nat} {cv : Nat → Nat × Nat × Nat} {K : Int32} {T : Int64} {t : fcS} (hS : ST q C cv K T t) (hc : c < C) {post : Option Nat → fcS → Prop} (hh : ∀ t2, ST q C cv K T t2 → (∀ i, i < 5 → fga t2 (21 + 4 * c + 1) i = shr q (cvP q (cv c)) (cvd q (cv c)) (cvg q (cv c)) i) → post (some (21 + 4 * c + 1)) t2) : q_X4_shareOf t (21 + 4 * c) post := by
  have hq := hS.1.1
  have hn5 := (nfd_ok hq).2
  refine c_field hS (fun hno => absurd (rfl : (1 : Int32) = nI 1) (hno 1 (fl_1 hq))) (fun n g t2 hf e1 ef hS2 ht hk => ⟨fun e => (nomatch e), fun i2 e2 => ?_⟩)
  obtain rfl := Option.some.inj e2
  have n1 : n = 1 := ((nI_eq (a := 1) (by omega) (by have := hf.2; omega)).mp e1).symm
  subst n1
  refine ⟨hk, c_field hS2 (fun hno => absurd (rfl : (2 : Int32) = nI 2) (hno 2 (fl_2 hq))) (fun n g2 t3 hf3 e3 ef3 hS3 ht3 hk3 => ⟨fun e => (nomatch e), fun i4 e4 => ?_⟩)⟩
  obtain rfl := Option.some.inj e4
  have n2 : n = 2 := ((nI_eq (a := 2) (by omega) (by have := hf3.2; omega)).mp e3).symm
  subst n2
  have ht1 := tb_F ht ef3 (by omega) (by omega)
  refine ⟨hk3, fun z => hh t3 hS3 ?_, fun z => s_mk hS3 hc ht1 ht3 (fun t4 hS4 hr => hh t4 hS4 hr)⟩
  rcases (hS3.2.1.2.2 c hc).2.1 with w | w
  · exact absurd w z
  · exact w
/-- the reference's -/
theorem m_needSh {q C c : Nat} {cv : Nat → Nat × Nat × Nat} {K : Int32} {T : Int64} {t : fcS} (hS : ST q C cv K T t) (hc : c < C) {post : fcS → Prop} (hh : ∀ t2, eqU t t2 → RS t2 q → (∀ i, i < 5 → fga t2 65 i = shr q (cvP q (cv c)) (cvd q (cv c)) (cvg q (cv c)) i) → post t2) : q_X5_needShares t (nI c) post := by
  have hq := hS.1.1
  have hC := hS.1.2.1
  have hV := hS.1.2.2 c hc
  obtain ⟨-, -, -, -, hP, hP7, hP0, -, -, g1', g2'⟩ := cv_is hq hV
  obtain ⟨hB, hRS, hRC, -, -⟩ := hS.2.2
  have k0 : Int32.toNatClampNeg 0 = 0 := by decide
  have k1 : Int32.toNatClampNeg 1 = 1 := by decide
  have k2 : Int32.toNatClampNeg 2 = 2 := by decide
  have k3 : Int32.toNatClampNeg 3 = 3 := by decide
  have k4 : Int32.toNatClampNeg 4 = 4 := by decide
  have w0 : vp_in 0 5 := vp_in_nI (n := 0) (by omega) (by omega)
  have w1 : vp_in 1 5 := vp_in_nI (n := 1) (by omega) (by omega)
  have w2 : vp_in 2 5 := vp_in_nI (n := 2) (by omega) (by omega)
  have w3 : vp_in 3 5 := vp_in_nI (n := 3) (by omega) (by omega)
  have w4 : vp_in 4 5 := vp_in_nI (n := 4) (by omega) (by omega)
  refine m_genOf hq hC hRC hc hV ⟨w0, fun t3 e3 => ?_⟩
  rw [k0] at e3
  have u3 : eqU t t3 := by subst e3; exact eqU_fsa t (by omega) _ _
  have s3 : RS t3 q := by subst e3; exact hRS
  have r3 : ∀ i, fga t3 65 i = if i = 0 then 1 else fga t 65 i := fun i => by subst e3; exact ga_fsaG _ _ _ _ _
  refine m_cntOf (n := 1) (RB_U hB u3) s3 (RC_U hRC u3) (fl_1 hq) hC hc hV (fun t4 e4 s4 => ⟨w1, fun t6 e6 => ?_⟩)
  have u4 := eqU_tr u3 e4.1
  have p4 : fgi t4 53 1 = nI (q + 1) := (RB_U hB u4).1
  rw [k1, p4] at e6
  have u6 : eqU t t6 := by subst e6; exact eqU_tr u4 (eqU_fsa t4 (by omega) _ _)
  have s6 : RS t6 q := by subst e6; exact s4
  have r6 : ∀ i, fga t6 65 i = if i = 1 then cnt q 1 (cvP q (cv c)) (cvd q (cv c)) - nI (q + 1) - 1 else if i = 0 then 1 else fga t 65 i := fun i => by subst e6; rw [ga_fsaG, e4.2, r3]
  refine ⟨fun cg => ?_, fun cg => ?_⟩
  · have hg : cvg q (cv c) = 2 := by
      have : cvg q (cv c) ≠ 1 := fun z => cg (by rw [z]; rfl)
      omega
    refine m_cntOf (n := 2) (RB_U hB u6) s6 (RC_U hRC u6) (fl_2 hq) hC hc hV (fun t7 e7 s7 => ⟨w1, w1, by decide, w2, fun t9 e9 => ⟨w1, w3, fun t10 e10 => ⟨w4, fun t11 e11 => ?_⟩⟩⟩)
    have u7 := eqU_tr u6 e7.1
    have p7 : fgi t7 53 1 = nI (q + 1) := (RB_U hB u7).1
    rw [k2, k1, p7, e7.2, r6 1, if_pos rfl] at e9
    have u9 : eqU t t9 := by subst e9; exact eqU_tr u7 (eqU_fsa t7 (by omega) _ _)
    have s9 : RS t9 q := by subst e9; exact s7
    have p9 : fgi t9 53 1 = nI (q + 1) := (RB_U hB u9).1
    have r9 : ∀ i, fga t9 65 i = if i = 2 then _ else fga t6 65 i := fun i => by subst e9; rw [ga_fsaG, e7.2]
    rw [k3, k1, p9, r9 1, if_neg (by omega), r6 1, if_pos rfl] at e10
    have u10 : eqU t t10 := by subst e10; exact eqU_tr u9 (eqU_fsa t9 (by omega) _ _)
    have s10 : RS t10 q := by subst e10; exact s9
    have p10 : fgi t10 53 1 = nI (q + 1) := (RB_U hB u10).1
    rw [k4, p10] at e11
    have u11 : eqU t t11 := by subst e11; exact eqU_tr u10 (eqU_fsa t10 (by omega) _ _)
    have s11 : RS t11 q := by subst e11; exact s10
    refine hh t11 u11 s11 (fun i hi => ?_)
    subst e11 e10
    rw [ga_fsaG, ga_fsaG, r9 i, r6 i, hg]
    unfold shr
    match i, hi with
    | 0, _ => rfl
    | 1, _ => rfl
    | 2, _ => rfl
    | 3, _ => rfl
    | 4, _ => show nI (q + 1) * nI (q + 1) = nI ((q + 1) ^ 2); rw [pk_mul, Nat.pow_two]
  · have hg : cvg q (cv c) = 1 := (nI_eq (b := 1) (by omega) (by omega)).mp cg
    refine ⟨w2, fun t12 e12 => ⟨w3, fun t13 e13 => ⟨w4, fun t14 e14 => ?_⟩⟩⟩
    have p6 : fgi t6 53 1 = nI (q + 1) := (RB_U hB u6).1
    rw [k2, p6] at e12
    rw [k3] at e13
    rw [k4] at e14
    have u14 : eqU t t14 := by subst e14 e13 e12; exact eqU_tr u6 (eqU_tr (eqU_fsa t6 (by omega) _ _) (eqU_tr (eqU_fsa _ (by omega) _ _) (eqU_fsa _ (by omega) _ _)))
    have s14 : RS t14 q := by subst e14 e13 e12; exact s6
    refine hh t14 u14 s14 (fun i hi => ?_)
    subst e14 e13 e12
    rw [ga_fsaG, ga_fsaG, ga_fsaG, r6 i, hg]
    unfold shr
    match i, hi with
    | 0, _ => rfl
    | 1, _ => rfl
    | 2, _ => rfl
    | 3, _ => rfl
    | 4, _ => rfl
theorem ok_18 : fOK_18 Inv := by
  intro t x y ⟨q, C, cv, K, T, hS⟩
  have hq := hS.1.1
  have hC := hS.1.2.1
  refine c_curve hS (fun hno => ⟨fun _ t1 e1 => ?_, fun i e => (nomatch e)⟩) (fun c hc ex hkc => ⟨fun e => (nomatch e), fun i2 e2 => ?_⟩)
  · subst e1
    have h0 := ST_0 hS
    exact m_isCurve (ST_6 h0) hC (fun _ => ⟨fun _ => ⟨rfl, ST_Inv h0⟩, fun z => absurd rfl z⟩) (fun c hc e => absurd e (hno c hc))
  obtain rfl := Option.some.inj e2
  subst ex
  refine ⟨hkc, ?_⟩
  have hV := hS.1.2.2 c hc
  obtain ⟨-, -, -, -, hP, hP7, hP0, -, -, g1', g2'⟩ := cv_is hq hV
  have rc : ∀ t2, ST q C cv K T t2 → ∀ post : Int32 → fcS → Prop, q_X5_in (fsi t2 53 0 0) (Int32.toInt64 y) 0 (Int32.toInt64 (nI (2 * cvg q (cv c)))) (fun (r7 : Int32) (t6 : fcS) => (¬ r7 = 0 → (q_X5_needShares t6 (nI c) (fun (t8 : fcS) => (vp_in y 5) ∧ (post ((fga t8 65 (Int32.toNatClampNeg y))) t8)))) ∧ (r7 = 0 → (post ((-1000000000)) t6))) → q_X5_share t2 (nI c) y post := fun t2 h2 post h t1 e1 => by
    subst e1
    have h0 := ST_0 h2
    refine m_isCurve (ST_6 h0) hC (fun hno => absurd rfl (hno c hc)) (fun _ _ _ => ⟨fun z => absurd z i0, fun _ => m_genOf hq hC h0.2.2.2.2.1 hc hV ?_⟩)
    rw [show (2 : Int32) = nI 2 from rfl, pk_mul]
    exact h
  rw [(hS.2.1.2.2 c hc).1.2.2.2.2.1, show (2 : Int32) = nI 2 from rfl, pk_mul]
  rcases ix_cases y (m := 2 * cvg q (cv c) + 1) (by omega) with w | ⟨j, hj, rfl⟩
  · have rb : q_X5_share t (nI c) y (fun r2 t2 => (-1000000000 : Int32) = r2 ∧ Inv t2) := by
      have h0 := ST_0 hS
      refine rc t hS _ (m_in (fun _ => ⟨fun z => absurd rfl z, fun _ => ⟨rfl, ST_Inv h0⟩⟩) (fun c1 c2 => ?_))
      rw [ti_i] at c1
      rw [ti_i, ti_i, nI_toInt (by omega)] at c2
      rw [ti_0] at c1
      omega
    refine ⟨fun _ => rb, fun c1 => ⟨fun c3 => ?_, fun _ => rb⟩⟩
    exfalso
    rw [Int32.lt_iff_toInt_lt, o32_0] at c1
    rw [Int32.le_iff_toInt_le, nI_toInt (by omega)] at c3
    omega
  · refine ⟨fun z => absurd z (nI_pos (by omega)), fun _ => ⟨fun _ => s_shareOf hS hc (fun t2 hS2 hr => ⟨rfl, s_at (by omega) (by omega) ?_⟩), fun z => absurd (nI_le (by omega) (by omega)) z⟩⟩
    rw [hr j (by omega)]
    have h0 := ST_0 hS2
    refine rc t2 hS2 _ (m_in (fun c1 => ?_) (fun _ _ => ⟨fun _ => ?_, fun z => absurd z i0⟩))
    · rw [ti_i, ti_i, nI_toInt (by omega), nI_toInt (by omega), ti_0] at c1
      omega
    · refine m_needSh h0 hc (fun t3 e3 s3 r3 => ⟨vp_in_nI (by omega) (by omega), ?_, ST_Inv (ST_U h0 e3 s3)⟩)
      rw [nI_clamp (by omega), r3 j (by omega)]
theorem ok_20 : fOK_20 Inv := by
  intro t x ⟨q, C, cv, K, T, hS⟩
  have hq := hS.1.1
  have hC := hS.1.2.1
  refine c_curve hS (fun hno => ⟨fun _ t1 e1 => ?_, fun i e => (nomatch e)⟩) (fun c hc ex hkc => ⟨fun e => (nomatch e), fun i2 e2 => ?_⟩)
  · subst e1
    have h0 := ST_0 hS
    exact m_isCurve (ST_6 h0) hC (fun _ => ⟨fun _ => ⟨rfl, ST_Inv h0⟩, fun z => absurd rfl z⟩) (fun c hc e => absurd e (hno c hc))
  obtain rfl := Option.some.inj e2
  subst ex
  refine ⟨hkc, s_shareOf hS hc (fun t2 hS2 hr => ⟨rfl, ?_⟩)⟩
  obtain ⟨S, eS⟩ : ∃ S, S = shr q (cvP q (cv c)) (cvd q (cv c)) (cvg q (cv c)) := ⟨_, rfl⟩
  rw [← eS] at hr
  have h0 := ST_0 hS2
  have lp : ∀ (post : Int32 → fcS → Prop) (hh : post (((((0 + S 0) + S 1) + S 2) + S 3) + S 4) t2), ∃ n0, q_X4_whole_29 (21 + 4 * c) post n0 0 5 0 t2 := fun post hh => by
    refine ⟨6, ?_⟩
    unfold q_X4_whole_29
    refine ⟨fun z => absurd z (by decide), fun _ => ⟨vp_in_nI (n := 0) (by omega) (by omega), fun x5 e5 x6 e6 x7 e7 => ?_⟩⟩
    rw [show Int32.toNatClampNeg 0 = 0 by decide, hr 0 (by omega)] at e5
    subst e5 e6 e7
    unfold q_X4_whole_29
    rw [show (0 : Int32) + 1 = nI 1 by decide]
    refine ⟨fun z => absurd z (by decide), fun _ => ⟨vp_in_nI (by omega) (by omega), fun x5 e5 x6 e6 x7 e7 => ?_⟩⟩
    rw [nI_clamp (by omega), hr 1 (by omega)] at e5
    rw [nI_1] at e7
    subst e5 e6 e7
    unfold q_X4_whole_29
    refine ⟨fun z => absurd z (by decide), fun _ => ⟨vp_in_nI (by omega) (by omega), fun x5 e5 x6 e6 x7 e7 => ?_⟩⟩
    rw [nI_clamp (by omega), hr _ (by omega)] at e5
    rw [nI_1] at e7
    subst e5 e6 e7
    unfold q_X4_whole_29
    refine ⟨fun z => absurd z (by decide), fun _ => ⟨vp_in_nI (by omega) (by omega), fun x5 e5 x6 e6 x7 e7 => ?_⟩⟩
    rw [nI_clamp (by omega), hr _ (by omega)] at e5
    rw [nI_1] at e7
    subst e5 e6 e7
    unfold q_X4_whole_29
    refine ⟨fun z => absurd z (by decide), fun _ => ⟨vp_in_nI (by omega) (by omega), fun x5 e5 x6 e6 x7 e7 => ?_⟩⟩
    rw [nI_clamp (by omega), hr _ (by omega)] at e5
    rw [nI_1] at e7
    subst e5 e6 e7
    unfold q_X4_whole_29
    exact ⟨fun _ => hh, fun z => absurd (by decide) z⟩
  refine lp _ (fun t1 e1 => ?_)
  subst e1
  refine m_isCurve (ST_6 h0) hC (fun hno => absurd rfl (hno c hc)) (fun _ _ _ => ⟨fun z => absurd z i0, fun _ => m_needSh h0 hc (fun t3 e3 s3 r3 => ?_)⟩)
  rw [← eS] at r3
  rw [show Int32.toNatClampNeg 0 = 0 by decide, show Int32.toNatClampNeg 1 = 1 by decide, show Int32.toNatClampNeg 2 = 2 by decide, show Int32.toNatClampNeg 3 = 3 by decide, show Int32.toNatClampNeg 4 = 4 by decide, r3 0 (by omega), r3 1 (by omega), r3 2 (by omega), r3 3 (by omega), r3 4 (by omega)]
  refine ⟨vp_in_nI (n := 0) (by omega) (by omega), vp_in_nI (n := 1) (by omega) (by omega), vp_in_nI (n := 2) (by omega) (by omega), vp_in_nI (n := 3) (by omega) (by omega), vp_in_nI (n := 4) (by omega) (by omega), ?_, ST_Inv (ST_U h0 e3 s3)⟩
  rw [Int32.zero_add]
